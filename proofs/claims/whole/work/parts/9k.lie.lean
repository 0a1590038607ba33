/-! THE MODEL: where a POINT lies -/
theorem m_turn {M : e_M} {ax ay bx b cx cy : Int} {Q : Int → Prop} (h1 : -2000000 ≤ bx - ax ∧ bx - ax ≤ 2000000) (h2 : -2000000 ≤ b - ay ∧ b - ay ≤ 2000000) (h3 : -1000000000000 ≤ cx - ax ∧ cx - ax ≤ 1000000000000) (h4 : -1000000000000 ≤ cy - ay ∧ cy - ay ≤ 1000000000000) (hq : Q (g_turn ax ay bx b cx cy)) : WX12_turn ax ay bx b cx cy M Q := by
  have p1 := s_mulb h1.1 h1.2 h4.1 h4.2 (by decide) (by decide)
  have p2 := s_mulb h2.1 h2.2 h3.1 h3.2 (by decide) (by decide)
  unfold WX12_turn VX12_turn
  rw [s_wj (x := bx - ax) (by omega) (by omega), s_wj (x := cy - ay) (by omega) (by omega), s_wj (x := b - ay) (by omega) (by omega), s_wj (x := cx - ax) (by omega) (by omega), s_wj (x := (bx - ax) * (cy - ay)) (by omega) (by omega), s_wj (x := (b - ay) * (cx - ax)) (by omega) (by omega), s_wj (by omega) (by omega)]
  exact hq
theorem m_within {M : e_M} {a b v : Int} {Q : Int → Prop} (q1 : g_bt a b v = true → Q 1) (q0 : g_bt a b v = false → Q 0) : WX12_within a b v M Q := by
  have n0 : ¬ ((a ≤ v ∨ b ≤ v) ∧ (v ≤ a ∨ v ≤ b)) → Q 0 := fun h => q0 (by
    cases e : g_bt a b v with
    | false => rfl
    | true => exact absurd (g_bt_iff.mp e) h)
  have y1 : ((a ≤ v ∨ b ≤ v) ∧ (v ≤ a ∨ v ≤ b)) → Q 1 := fun h => q1 (g_bt_iff.mpr h)
  have k24 : ¬ ((a ≤ v ∨ b ≤ v) ∧ (v ≤ a ∨ v ≤ b)) → WX12_within_24 M Q := fun h => by
    unfold WX12_within_24 VX12_within_24; exact n0 h
  unfold WX12_within VX12_within
  exact ⟨fun h => ⟨fun h2 => n0 (by omega), fun h2 => ⟨fun h3 => n0 (by omega), fun h3 => y1 (by omega)⟩⟩, fun h => ⟨fun h2 => k24 (by omega), fun h2 => ⟨fun h3 => k24 (by omega), fun h3 => y1 (by omega)⟩⟩⟩
theorem m_lies {M : e_M} {ax ay bx b px py : Int} {Q : Int → Prop} (h1 : -2000000 ≤ bx - ax ∧ bx - ax ≤ 2000000) (h2 : -2000000 ≤ b - ay ∧ b - ay ≤ 2000000) (h3 : -1000000000000 ≤ px - ax ∧ px - ax ≤ 1000000000000) (h4 : -1000000000000 ≤ py - ay ∧ py - ay ≤ 1000000000000) (q1 : g_on ax ay bx b px py = true → Q 1) (q0 : g_on ax ay bx b px py = false → Q 0) : WX12_lies ax ay bx b px py M Q := by
  unfold g_on at q1 q0
  unfold WX12_lies VX12_lies
  refine m_turn h1 h2 h3 h4 ⟨fun ne => q0 (by rw [decide_eq_false ne]; rfl), fun e => ?_⟩
  rw [decide_eq_true e, Bool.true_and] at q1 q0
  refine m_within (fun w1 => ⟨fun z => by omega, fun _ => m_within (fun w2 => ⟨fun z => by omega, fun _ => q1 (by rw [w1, w2]; rfl)⟩) (fun w2 => ⟨fun _ => q0 (by rw [w2, Bool.and_false]), fun z => absurd rfl z⟩)⟩) (fun w1 => ⟨fun _ => q0 (by rw [w1]; rfl), fun z => absurd rfl z⟩)
/-- how a stretch counts: once round the POINT, up on its right or down -/
def g_cs (px py ax ay bx b : Int) : Int := if (ay ≤ py ∧ py < b) ∧ 0 < g_turn ax ay bx b px py then 1 else if (b ≤ py ∧ py < ay) ∧ g_turn ax ay bx b px py < 0 then -1 else 0
def g_csi (l : s_Fig) (px py sc : Int) (i : Nat) : Int := g_cs px py ((g_pt l i).1 * sc) ((g_pt l i).2 * sc) ((g_pt l (g_nx l.length i)).1 * sc) ((g_pt l (g_nx l.length i)).2 * sc)
def g_wn (l : s_Fig) (px py sc : Int) : Int := g_sum (g_csi l px py sc) l.length
def g_lie (l : s_Fig) (px py sc : Int) : Int := if g_any (g_ed l sc (fun ax ay bx b => g_on ax ay bx b px py)) l.length = true then 1 else if g_wn l px py sc = 0 then 0 else 2
theorem g_cs_b {px py ax ay bx b : Int} : -1 ≤ g_cs px py ax ay bx b ∧ g_cs px py ax ay bx b ≤ 1 := by
  unfold g_cs
  split
  · omega
  · split <;> omega
theorem g_wn_b {l : s_Fig} {px py sc : Int} : ∀ n : Nat, -(n : Int) ≤ g_sum (g_csi l px py sc) n ∧ g_sum (g_csi l px py sc) n ≤ n
  | 0 => ⟨by show -(0 : Int) ≤ 0; omega, by show (0 : Int) ≤ 0; omega⟩
  | n + 1 => by
    have := g_wn_b (l := l) (px := px) (py := py) (sc := sc) n
    have h : -1 ≤ g_csi l px py sc n ∧ g_csi l px py sc n ≤ 1 := g_cs_b
    have e : g_sum (g_csi l px py sc) (n + 1) = g_sum (g_csi l px py sc) n + g_csi l px py sc n := rfl
    omega
/-- all of a row of corners lies near -/
def j_fgb (M : e_M) (f n : Nat) : Prop := ∀ k, k < n → (0 ≤ M 4480 (f + k) ∧ M 4480 (f + k) ≤ 1000) ∧ 0 ≤ M 4481 (f + k) ∧ M 4481 (f + k) ≤ 1000
theorem j_fg_len {M : e_M} {f n : Nat} : (j_fg M f n).length = n := by unfold j_fg; rw [s_ar_len]; omega
theorem j_fg_at {M : e_M} {f n k : Nat} (h : k < n) : g_pt (j_fg M f n) k = (M 4480 (f + k), M 4481 (f + k)) := by
  unfold g_pt j_fg
  rw [s_ar_get (by omega)]; rfl
theorem g_nx_mod {n k : Nat} (h : k < n) : (((k : Int) + 1).tmod (n : Int)) = (g_nx n k : Nat) := by
  rw [Int.tmod_eq_emod_of_nonneg (by omega)]
  unfold g_nx
  by_cases c : k + 1 < n
  · rw [if_pos c, Int.emod_eq_of_lt (by omega) (by omega)]; omega
  · rw [if_neg c]
    have e : (k : Int) + 1 = n := by omega
    rw [e, Int.emod_self]; rfl
theorem m_lieAt {M : e_M} {f n : Nat} {f' n' px py sc : Int} {Q : Int → Prop} (ef : f' = (f : Int)) (en : n' = (n : Int)) (hf : f + n ≤ 4800) (hb : j_fgb M f n) (hx : -8589934592 ≤ px ∧ px ≤ 8589934592) (hy : -8589934592 ≤ py ∧ py ≤ 8589934592) (hs : sc = 1 ∨ sc = 2) (hq : Q (g_lie (j_fg M f n) px py sc)) : WX12_lieAt f' n' px py sc M Q := by
  subst ef en
  have ln : (j_fg M f n).length = n := j_fg_len
  unfold g_lie g_wn at hq
  unfold WX12_lieAt VX12_lieAt
  refine s_up (σ := Int) (P := fun dd i s => WX12_lieAt_6 M Q dd f n px py sc s i) (n := (n : Int)) (i0 := 0) (s := 0) (fun i s => s = g_sum (g_csi (j_fg M f n) px py sc) i.toNat ∧ ∀ j : Nat, (j : Int) < i → g_ed (j_fg M f n) sc (fun ax ay bx b => g_on ax ay bx b px py) j = false) (by omega) ⟨rfl, fun j hj => by omega⟩ ?_ ?_
  · intro d2 s ⟨e, hj⟩
    have na : ¬ g_any (g_ed (j_fg M f n) sc (fun ax ay bx b => g_on ax ay bx b px py)) (j_fg M f n).length = true := fun z => by
      obtain ⟨j, j1, j2⟩ := g_any_iff.mp z
      rw [hj j (by omega)] at j2; cases j2
    rw [if_neg na, ln] at hq
    have e2 : s = g_sum (g_csi (j_fg M f n) px py sc) n := by rw [e]; rfl
    rw [← e2] at hq
    unfold WX12_lieAt_6 VX12_lieAt_6
    refine ⟨fun _ => ⟨fun ne => ?_, fun e0 => ?_⟩, fun z => by omega⟩
    · rw [if_neg ne] at hq; exact hq
    · rw [if_pos e0] at hq; exact hq
  · intro d2 i s k1 k2 ⟨e, hj⟩ ih
    obtain ⟨k, ek⟩ : ∃ k : Nat, i = k := ⟨i.toNat, by omega⟩
    subst ek
    have kn : k < n := by omega
    have nl := g_nx_lt kn
    have tk : ((k : Nat) : Int).toNat = k := by omega
    rw [tk] at e
    have bk := hb k kn
    have bl := hb (g_nx n k) nl
    have ee : g_ed (j_fg M f n) sc (fun ax ay bx b => g_on ax ay bx b px py) k = g_on (M 4480 (f + k) * sc) (M 4481 (f + k) * sc) (M 4480 (f + g_nx n k) * sc) (M 4481 (f + g_nx n k) * sc) px py := by
      unfold g_ed
      rw [ln, j_fg_at kn, j_fg_at nl]
    have ec : g_csi (j_fg M f n) px py sc k = g_cs px py (M 4480 (f + k) * sc) (M 4481 (f + k) * sc) (M 4480 (f + g_nx n k) * sc) (M 4481 (f + g_nx n k) * sc) := by
      unfold g_csi
      rw [ln, j_fg_at kn, j_fg_at nl]
    have es : ∀ v, g_csi (j_fg M f n) px py sc k = v → s + v = g_sum (g_csi (j_fg M f n) px py sc) ((k : Int) + 1).toNat := fun v hv => by
      rw [show ((k : Int) + 1).toNat = k + 1 by omega, e, ← hv]; rfl
    have sb := g_wn_b (l := j_fg M f n) (px := px) (py := py) (sc := sc) k
    rw [← e] at sb
    rw [ec] at es
    unfold WX12_lieAt_6 VX12_lieAt_6
    rw [s_w (x := (k : Int) + 1) (by omega) (by omega), g_nx_mod kn, s_w (x := (f : Int) + k) (by omega) (by omega), show ((f : Int) + (k : Int)).toNat = f + k by omega, s_w (x := (f : Int) + (g_nx n k : Nat)) (by omega) (by omega)]
    refine ⟨fun z => by omega, fun _ => ⟨by omega, fun y1 f1 => ?_⟩⟩
    subst f1
    rw [show ((f : Int) + (g_nx n k : Nat)).toNat = f + g_nx n k by omega]
    generalize hA : M 4480 (f + k) = A at *
    generalize hB : M 4481 (f + k) = B at *
    generalize hC : M 4480 (f + g_nx n k) = C at *
    generalize hD : M 4481 (f + g_nx n k) = D at *
    have scl : ∀ z : Int, 0 ≤ z → z ≤ 1000 → (0 ≤ z * sc ∧ z * sc ≤ 2000) ∧ e_w64 (sc * z) = z * sc := fun z z0 z1 => by
      rcases hs with rfl | rfl
      · exact ⟨by omega, by rw [Int.mul_comm]; exact s_wj (by omega) (by omega)⟩
      · exact ⟨by omega, by rw [Int.mul_comm]; exact s_wj (by omega) (by omega)⟩
    obtain ⟨a1, a2⟩ := scl A bk.1.1 bk.1.2
    obtain ⟨b1, b2⟩ := scl B bk.2.1 bk.2.2
    obtain ⟨c1, c2⟩ := scl C bl.1.1 bl.1.2
    obtain ⟨d1, d2'⟩ := scl D bl.2.1 bl.2.2
    rw [a2, b2, c2, d2']
    generalize A * sc = a at *
    generalize B * sc = b at *
    generalize C * sc = c at *
    generalize D * sc = d at *
    have k177 : ∀ s' : Int, s' = g_sum (g_csi (j_fg M f n) px py sc) ((k : Int) + 1).toNat → g_on a b c d px py = false → WX12_lieAt_177 M (WX12_lieAt_6 M Q d2) Q f n px py sc s' k := fun s' hs' hon => by
      unfold WX12_lieAt_177 VX12_lieAt_177
      rw [s_w (by omega) (by omega)]
      refine ih s' ⟨hs', fun j hj2 => ?_⟩
      by_cases cj : j = k
      · rw [cj, ee]; exact hon
      · exact hj j (by omega)
    have k139 : g_on a b c d px py = false → ¬ ((b ≤ py ∧ py < d) ∧ 0 < g_turn a b c d px py) → WX12_lieAt_139 M (WX12_lieAt_6 M Q d2) Q f n px py sc s k a b c d := fun hon hno => by
      have e0 : ¬ ((d ≤ py ∧ py < b) ∧ g_turn a b c d px py < 0) → s = g_sum (g_csi (j_fg M f n) px py sc) ((k : Int) + 1).toNat := fun h2 => by
        have := es 0 (by unfold g_cs; rw [if_neg hno, if_neg h2])
        rw [Int.add_zero] at this
        exact this
      unfold WX12_lieAt_139 VX12_lieAt_139
      refine ⟨fun z => k177 s (e0 (by omega)) hon, fun h1 => ⟨fun z => k177 s (e0 (by omega)) hon, fun h2 => m_turn (by omega) (by omega) (by omega) (by omega) ⟨fun h3 => k177 s (e0 (by omega)) hon, fun h3 => ?_⟩⟩⟩
      rw [s_w (by omega) (by omega)]
      exact k177 _ (es (-1) (by unfold g_cs; rw [if_neg hno, if_pos ⟨⟨h2, h1⟩, h3⟩])) hon
    refine ⟨by omega, fun y2 f2 => ⟨by omega, fun y3 f3 => ?_⟩⟩
    subst f2 f3
    refine ⟨by omega, by omega, m_lies (by omega) (by omega) (by omega) (by omega) (fun on => ⟨fun z => by omega, fun _ => ?_⟩) (fun off => ⟨fun _ => ?_, fun z => absurd rfl z⟩)⟩
    · rw [if_pos (g_any_iff.mpr ⟨k, by rw [ln]; exact kn, by rw [ee]; exact on⟩)] at hq
      exact hq
    · refine ⟨fun h1 => k139 off (by omega), fun h1 => ⟨fun h2 => k139 off (by omega), fun h2 => m_turn (by omega) (by omega) (by omega) (by omega) ⟨fun h3 => k139 off (by omega), fun h3 => ?_⟩⟩⟩
      have e1 := es 1 (by unfold g_cs; rw [if_pos ⟨⟨h1, h2⟩, h3⟩])
      have sb2 := g_wn_b (l := j_fg M f n) (px := px) (py := py) (sc := sc) k
      rw [s_w (by omega) (by omega)]
      have k2 : ¬ ((d ≤ py ∧ py < y3) ∧ g_turn y2 y3 c d px py < 0) := by omega
      unfold WX12_lieAt_139 VX12_lieAt_139
      exact ⟨fun z => k177 _ e1 off, fun z => by omega⟩
/-- a FIGURE for which both sides' ways of looking where a POINT is come to the same -/
def g_good (F : s_Fig) : Prop := ∀ px py sc : Int, (sc = 1 ∨ sc = 2) → g_lie F px py sc = g_where F px py sc
theorem R_fgb {M : e_M} {V : Nat → v_D} {S : w_S} {a : Int} (h : R_all M V S a) {l : Nat} (hl : (l : Int) < S.1 0) : ∃ n : Nat, M 4496 l = n ∧ n ≤ 40 ∧ j_fgb M (40 * l) n ∧ j_fg M (40 * l) n = (w_l S l).2.1 := by
  obtain ⟨hn, hc, hR, hz, hg, hd⟩ := h
  have l80 := R_mx hz (show 0 < 7 by omega) hl
  obtain ⟨⟨n0, n40⟩, -⟩ := hn.2.2.1 l l80
  obtain ⟨e1, -⟩ := R_lo hR hz hl
  refine ⟨(M 4496 l).toNat, by omega, by omega, fun k hk => ?_, by rw [show (((M 4496 l).toNat : Nat) : Int) = M 4496 l by omega]; exact e1⟩
  have hb := (hg.1 l hl).1
  rw [← e1] at hb
  have := hb _ (List.mem_of_getElem? (s_ar_get (f := fun k => (M 4480 (40 * l + k), M 4481 (40 * l + k))) (n := M 4496 l) (i := k) (by omega)))
  exact this
