/-! THE MODEL: what is asked before an act; OWNERS loaded and kept -/
theorem m_loads {M : e_M} {l : Nat} {Q : e_M → Prop} (h : nn_ok M) (hl : l < 80) (hq : ∀ M', m_own M' = j_own M l → m_ook M' → m_fr M M' → Q M') : WX12_loads l M Q := by
  obtain ⟨⟨a0, a1⟩, -, b0, b8⟩ := h.2.2.1 l hl
  unfold WX12_loads VX12_loads
  rw [show ((l : Nat) : Int).toNat = l by omega]
  refine ⟨by omega, fun M1 e1 => ?_⟩
  refine s_up (σ := e_M) (P := fun dd i N => WX12_loads_12 Q dd l i N) (n := M 4497 l) (i0 := 0) (s := M1) (fun i N => (∀ x, x ≠ 4517 → x ≠ 4518 → x ≠ 4519 → N x = M1 x) ∧ ∀ j : Nat, (j : Int) < i → (N 4517 j = M 4498 (8 * l + j) ∧ N 4518 j = M 4501 (8 * l + j)) ∧ N 4519 j = M 4502 (8 * l + j)) b0 ⟨fun _ _ _ _ => rfl, fun j hj => by omega⟩ ?_ ?_
  · intro d2 N ⟨n1, n2⟩
    have q87 : N 4456 87 = M 4497 l := by rw [n1 4456 (by omega) (by omega) (by omega), e1, e_up_eq]
    unfold WX12_loads_12 VX12_loads_12
    rw [q87]
    refine ⟨fun _ => hq N ?_ (by unfold m_ook; rw [q87]; omega) ⟨fun x x1 x2 x3 x4 => by rw [n1 x x2 x3 x4, e1, e_up_row x1], fun k k1 k2 k3 => by rw [n1 4456 (by omega) (by omega) (by omega), e1, e_up_ne (fun z => k3 z.2)]⟩, fun z => by omega⟩
    unfold m_own j_own
    rw [q87]
    refine s_ar_congr (fun j hj => ?_)
    have := n2 j (by omega)
    rw [this.1.1, this.1.2, this.2]
  · intro d2 i N k1 k2 ⟨n1, n2⟩ ih
    have q87 : N 4456 87 = M 4497 l := by rw [n1 4456 (by omega) (by omega) (by omega), e1, e_up_eq]
    have c : ∀ x, x ≠ 4456 → x ≠ 4517 → x ≠ 4518 → x ≠ 4519 → N x = M x := fun x x1 x2 x3 x4 => by rw [n1 x x2 x3 x4, e1, e_up_row x1]
    unfold WX12_loads_12 VX12_loads_12
    rw [q87, s_w (x := 8 * (l : Int)) (by omega) (by omega), s_w (x := 8 * (l : Int) + i) (by omega) (by omega), show (8 * (l : Int) + i).toNat = 8 * l + i.toNat by omega]
    refine ⟨fun z => by omega, fun _ => ⟨by omega, by omega, fun A1 f1 => ⟨by omega, by omega, fun A2 f2 => ⟨by omega, by omega, fun A3 f3 => ?_⟩⟩⟩⟩
    rw [c 4498 (by omega) (by omega) (by omega) (by omega)] at f1
    rw [f1, e_up_row (show 4501 ≠ 4517 by omega), c 4501 (by omega) (by omega) (by omega) (by omega)] at f2
    rw [f2, e_up_row (show 4502 ≠ 4518 by omega), e_up_row (show 4502 ≠ 4517 by omega), c 4502 (by omega) (by omega) (by omega) (by omega)] at f3
    rw [s_w (by omega) (by omega)]
    refine ih A3 ⟨fun x x1 x2 x3 => by rw [f3, e_up_row x3, e_up_row x2, e_up_row x1, n1 x x1 x2 x3], fun j hj => ⟨⟨?_, ?_⟩, ?_⟩⟩
    · rw [f3, e_up_row (by omega), e_up_row (by omega), e_up_at]
      by_cases cj : j = i.toNat
      · rw [if_pos cj, cj]
      · rw [if_neg cj]; exact (n2 j (by omega)).1.1
    · rw [f3, e_up_row (by omega), e_up_at, e_up_row (by omega)]
      by_cases cj : j = i.toNat
      · rw [if_pos cj, cj]
      · rw [if_neg cj]; exact (n2 j (by omega)).1.2
    · rw [f3, e_up_at, e_up_row (by omega), e_up_row (by omega)]
      by_cases cj : j = i.toNat
      · rw [if_pos cj, cj]
      · rw [if_neg cj]; exact (n2 j (by omega)).2
theorem m_keeps {M : e_M} {l : Nat} {Q : e_M → Prop} (h : nn_ok M) (hl : l < 80) (ho : m_ook M) (h8 : M 4456 87 ≤ 8) (hq : ∀ M', nn_ok M' → n_of M' = n_own (n_of M) l (m_own M) → (∀ b, b ≠ 4497 → b ≠ 4498 → b ≠ 4501 → b ≠ 4502 → M' b = M b) → Q M') : WX12_keeps l M Q := by
  obtain ⟨b0, b14⟩ := id ho
  unfold WX12_keeps VX12_keeps
  rw [show ((l : Nat) : Int).toNat = l by omega]
  refine ⟨by omega, fun M1 e1 => ?_⟩
  have o1 : ∀ x, x ≠ 4497 → M1 x = M x := fun x hx => by rw [e1, e_up_row hx]
  refine s_up (σ := e_M) (P := fun dd i N => WX12_keeps_12 Q dd l i N) (n := M 4456 87) (i0 := 0) (s := M1) (fun i N => (∀ x, x ≠ 4498 → x ≠ 4501 → x ≠ 4502 → N x = M1 x) ∧ (∀ j : Nat, (j : Int) < i → (N 4498 (8 * l + j) = M 4517 j ∧ N 4501 (8 * l + j) = M 4518 j) ∧ N 4502 (8 * l + j) = M 4519 j) ∧ ∀ j, (j < 8 * l ∨ 8 * l + 8 ≤ j) → N 4498 j = M 4498 j ∧ N 4501 j = M 4501 j ∧ N 4502 j = M 4502 j) b0 ⟨fun _ _ _ _ => rfl, fun j hj => by omega, fun j hj => ⟨by rw [o1 4498 (by omega)], by rw [o1 4501 (by omega)], by rw [o1 4502 (by omega)]⟩⟩ ?_ ?_
  · intro d2 N ⟨n1, n2, n3⟩
    have q87 : N 4456 = M 4456 := by rw [n1 4456 (by omega) (by omega) (by omega), o1 4456 (by omega)]
    have q97 : N 4497 l = M 4456 87 := by rw [n1 4497 (by omega) (by omega) (by omega), e1, e_up_eq]
    unfold WX12_keeps_12 VX12_keeps_12
    rw [q87]
    refine ⟨fun _ => ?_, fun z => by omega⟩
    have oN : ∀ b, b ≠ 4497 → b ≠ 4498 → b ≠ 4501 → b ≠ 4502 → N b = M b := fun b b1 b2 b3 b4 => by rw [n1 b b2 b3 b4, o1 b b1]
    have hw : j_own N l = m_own M := by
      unfold j_own m_own
      rw [q97]
      refine s_ar_congr (fun j hj => ?_)
      have := n2 j (by omega)
      rw [this.1.1, this.1.2, this.2]
    obtain ⟨u1, u2⟩ := N_own (ow := m_own M) h hl (M' := N) hw (by unfold j_ok; rw [q97]; omega) oN (fun u hu => by rw [n1 4497 (by omega) (by omega) (by omega), e1, e_up_ne (fun z => hu z.2)]) n3
    exact hq N u1 u2 oN
  · intro d2 i N k1 k2 ⟨n1, n2, n3⟩ ih
    have c : ∀ x, x ≠ 4497 → x ≠ 4498 → x ≠ 4501 → x ≠ 4502 → N x = M x := fun x x1 x2 x3 x4 => by rw [n1 x x2 x3 x4, o1 x x1]
    unfold WX12_keeps_12 VX12_keeps_12
    rw [c 4456 (by omega) (by omega) (by omega) (by omega), s_w (x := 8 * (l : Int)) (by omega) (by omega), s_w (x := 8 * (l : Int) + i) (by omega) (by omega), show (8 * (l : Int) + i).toNat = 8 * l + i.toNat by omega]
    refine ⟨fun z => by omega, fun _ => ⟨by omega, by omega, fun A1 f1 => ⟨by omega, by omega, fun A2 f2 => ⟨by omega, by omega, fun A3 f3 => ?_⟩⟩⟩⟩
    rw [c 4517 (by omega) (by omega) (by omega) (by omega)] at f1
    rw [f1, e_up_row (show 4518 ≠ 4498 by omega), c 4518 (by omega) (by omega) (by omega) (by omega)] at f2
    rw [f2, e_up_row (show 4519 ≠ 4501 by omega), e_up_row (show 4519 ≠ 4498 by omega), c 4519 (by omega) (by omega) (by omega) (by omega)] at f3
    rw [s_w (by omega) (by omega)]
    have k98 : ∀ j, A3 4498 j = if j = 8 * l + i.toNat then M 4517 i.toNat else N 4498 j := fun j => by rw [f3, e_up_row (by omega), e_up_row (by omega), e_up_at]
    have k01 : ∀ j, A3 4501 j = if j = 8 * l + i.toNat then M 4518 i.toNat else N 4501 j := fun j => by rw [f3, e_up_row (by omega), e_up_at, e_up_row (by omega)]
    have k02 : ∀ j, A3 4502 j = if j = 8 * l + i.toNat then M 4519 i.toNat else N 4502 j := fun j => by rw [f3, e_up_at, e_up_row (by omega), e_up_row (by omega)]
    refine ih A3 ⟨fun x x1 x2 x3 => by rw [f3, e_up_row x3, e_up_row x2, e_up_row x1, n1 x x1 x2 x3], fun j hj => ?_, fun j hj => ?_⟩
    · rw [k98, k01, k02]
      by_cases cj : j = i.toNat
      · subst cj; rw [if_pos rfl, if_pos rfl, if_pos rfl]; exact ⟨⟨rfl, rfl⟩, rfl⟩
      · rw [if_neg (by omega), if_neg (by omega), if_neg (by omega)]; exact n2 j (by omega)
    · rw [k98, k01, k02, if_neg (by omega), if_neg (by omega), if_neg (by omega)]
      exact n3 j hj
theorem j_own_len {M : e_M} {l : Nat} (h : j_ok M 4497 l) : ((j_own M l).length : Int) = M 4497 l := by unfold j_own; rw [s_ar_len]; have := h.1; omega
theorem j_own_at {M : e_M} {l i : Nat} (h : (i : Int) < M 4497 l) : (j_own M l)[i]? = some (M 4498 (8 * l + i), M 4501 (8 * l + i), M 4502 (8 * l + i)) := s_ar_get (f := fun k => (M 4498 (8 * l + k), M 4501 (8 * l + k), M 4502 (8 * l + k))) (by omega)
/-- a LOT's FIGURE, CHARGES, OWNERS are the class's -/
theorem R_lo {M : e_M} {V : Nat → v_D} {S : w_S} {a : Int} (hR : R_S V S (n_of M) a) (hz : R_z S) {l : Nat} (hl : (l : Int) < S.1 0) : j_fg M (40 * l) (M 4496 l) = (w_l S l).2.1 ∧ j_row M 4499 4500 l = (w_l S l).2.2.1 ∧ j_own M l = (w_l S l).2.2.2 := by
  have h80 := R_mx hz (show 0 < 7 by omega) hl
  have := (hR.2.2.1 l hl).2
  rw [n_l h80] at this
  exact ⟨congrArg (fun x : n_L => x.1) this, congrArg (fun x : n_L => x.2.1) this, congrArg (fun x : n_L => x.2.2) this⟩
theorem R_day {M : e_M} {V : Nat → v_D} {S : w_S} {a : Int} (hR : R_S V S (n_of M) a) : M 4456 86 = S.2.2.2 := hR.2.1
theorem R_many {M : e_M} {V : Nat → v_D} {S : w_S} {a : Int} (hR : R_S V S (n_of M) a) {s : Nat} (hs : s < 7) : M 4483 s = S.1 s := by
  have := hR.1.1 s hs
  rw [n_z hs] at this
  exact this
/-- what every step of an act needs -/
def R_all (M : e_M) (V : Nat → v_D) (S : w_S) (a : Int) : Prop := nn_ok M ∧ cm_ok M ∧ R_S V S (n_of M) a ∧ R_z S ∧ w_rg S ∧ (0 ≤ S.2.2.2 ∧ S.2.2.2 ≤ 219144)
theorem m_areAble {M : e_M} {V : Nat → v_D} {S : w_S} {a : Int} {l : Nat} {Q : Int → Prop} (h : R_all M V S a) (hl : (l : Int) < S.1 0) (q1 : w_oab S l → Q 1) (q0 : ¬ w_oab S l → Q 0) : WX12_areAble l M Q := by
  obtain ⟨hn, hc, hR, hz, hg, hd⟩ := h
  have h80 := R_mx hz (show 0 < 7 by omega) hl
  obtain ⟨-, -, eo⟩ := R_lo hR hz hl
  have hj := (hn.2.2.1 l h80).2.2
  have hjl := j_own_len hj
  obtain ⟨j0, j8⟩ := hj
  have ho := (hg.1 l hl).2.2.1
  unfold w_oab at q1 q0
  rw [← eo] at q1 q0 ho
  unfold WX12_areAble VX12_areAble
  refine s_up (σ := Unit) (P := fun dd i _ => WX12_areAble_2 M Q dd l i) (n := M 4497 l) (i0 := 0) (s := ()) (fun i _ => ∀ j : Nat, (j : Int) < i → w_abl S (M 4498 (8 * l + j)).toNat = true) j0 (fun j hj => by omega) ?_ ?_
  · intro d2 _ hi
    unfold WX12_areAble_2 VX12_areAble_2
    rw [show ((l : Nat) : Int).toNat = l by omega]
    refine ⟨by omega, fun _ => q1 (fun q hq => ?_), fun z => by omega⟩
    obtain ⟨j, hj, e⟩ := s_ar_mem.mp hq
    rw [← e]
    exact hi j (by omega)
  · intro d2 i _ k1 k2 hi ih
    unfold WX12_areAble_2 VX12_areAble_2
    rw [show ((l : Nat) : Int).toNat = l by omega, s_w (x := 8 * (l : Int)) (by omega) (by omega), s_w (x := 8 * (l : Int) + i) (by omega) (by omega), show (8 * (l : Int) + i).toNat = 8 * l + i.toNat by omega]
    have hm := List.mem_of_getElem? (j_own_at (M := M) (l := l) (i := i.toNat) (by omega))
    have hp := ho _ hm
    dsimp only at hp
    change 0 ≤ _ ∧ _ < S.1 1 at hp
    have hw := (hg.2 1 (M 4498 (8 * l + i.toNat)).toNat (by omega) (by omega) (by show (((M 4498 (8 * l + i.toNat)).toNat : Nat) : Int) < S.1 1; omega)).1.1
    rw [R_day hR, show M 4498 (8 * l + i.toNat) = (((M 4498 (8 * l + i.toNat)).toNat : Nat) : Int) by omega]
    refine ⟨by omega, fun z => by omega, fun _ => ⟨by omega, m_isAble hc hR hz hd (by omega) hw (fun ab => ⟨fun _ => ?_, fun z => by omega⟩) (fun ab => ⟨fun z => absurd rfl z, fun _ => q0 (fun z => ?_)⟩)⟩⟩
    · rw [s_w (by omega) (by omega)]
      refine ih () (fun j hj => ?_)
      by_cases c : (j : Int) = i
      · rw [show j = i.toNat by omega]; exact ab
      · exact hi j (by omega)
    · have := z _ hm
      dsimp only at this
      rw [ab] at this; cases this
theorem m_isBarred {M : e_M} {V : Nat → v_D} {S : w_S} {a : Int} {l : Nat} {but : Int} {Q : Int → Prop} (h : R_all M V S a) (q1 : w_bar S l but → Q 1) (q0 : ¬ w_bar S l but → Q 0) : WX12_isBarred l but M Q := by
  obtain ⟨hn, hc, hR, hz, hg, hd⟩ := h
  have z5 := hz 5 (by omega)
  have m5 : w_mx 5 = 40 := rfl
  unfold WX12_isBarred VX12_isBarred
  refine s_up (σ := Unit) (P := fun dd i _ => WX12_isBarred_2 M Q dd l but i) (n := S.1 5) (i0 := 0) (s := ()) (fun i _ => ∀ j : Nat, (j : Int) < i → ¬ (w_thr S 5 j = true ∧ (l : Int) ∈ (w_t S 5 j).2.1 ∧ (w_t S 5 j).1 5 ≠ but)) z5.1 (fun j hj => by omega) ?_ ?_
  · intro d2 _ hi
    unfold WX12_isBarred_2 VX12_isBarred_2
    rw [show (5 : Int).toNat = 5 from rfl, R_many hR (show 5 < 7 by omega)]
    exact ⟨by omega, fun _ => q0 (fun ⟨i, h1, h2⟩ => hi i h1 h2), fun z => by omega⟩
  · intro d2 i _ k1 k2 hi ih
    unfold WX12_isBarred_2 VX12_isBarred_2
    rw [show (5 : Int).toNat = 5 from rfl, R_many hR (show 5 < 7 by omega), R_day hR]
    have hi5 : ((i.toNat : Nat) : Int) < S.1 5 := by omega
    have nxt : ¬ (w_thr S 5 i.toNat = true ∧ (l : Int) ∈ (w_t S 5 i.toNat).2.1 ∧ (w_t S 5 i.toNat).1 5 ≠ but) → WX12_isBarred_54 M (WX12_isBarred_2 M Q d2) Q l but i := by
      intro ne
      show WX12_isBarred_2 M Q d2 l but (e_w32 (i + 1))
      rw [s_w (by omega) (by omega)]
      refine ih () (fun j hj => ?_)
      by_cases c : (j : Int) = i
      · rw [show j = i.toNat by omega]; exact ne
      · exact hi j (by omega)
    have hid : ∀ {Q : Int → Prop}, Q (((80 * 5 + i.toNat : Nat)) : Int) → WX12_id 5 i M Q := fun h => m_id (by omega) (by omega) (by rw [show 80 * (5 : Int) + i = ((80 * 5 + i.toNat : Nat) : Int) by omega]; exact h)
    have tt := R_thr hR (by omega) (show 5 < 7 by omega) hi5
    have jk := hn.2.1 (80 * 5 + i.toNat) (by omega)
    obtain ⟨-, -, -, -, -, c5, -⟩ := n_c (M := M) (t := 80 * 5 + i.toNat) (by omega)
    obtain ⟨r1, -⟩ := n_r (M := M) (t := 80 * 5 + i.toNat) (by omega)
    have hth := (hR.2.2.2.2.1 5 i.toNat (by omega) (by omega) hi5).2
    have go := m_isThere (M := M) (s := 5) (i := i.toNat) (day := S.2.2.2) (Q := fun r1 => (r1 = 0 → WX12_isBarred_54 M (WX12_isBarred_2 M Q d2) Q l but i) ∧ (¬ r1 = 0 → WX12_id 5 i M (fun r2 => WX12_placeOn r2 l M (fun r3 => (r3 < 0 → WX12_isBarred_54 M (WX12_isBarred_2 M Q d2) Q l but i) ∧ (0 ≤ r3 → WX12_id 5 i M (fun r4 => (0 ≤ r4 ∧ r4 < 560) ∧ (M 4489 r4.toNat = but → WX12_isBarred_54 M (WX12_isBarred_2 M Q d2) Q l but i) ∧ (¬ M 4489 r4.toNat = but → Q 1))))))) (by omega) (by omega) (fun t => ⟨fun z => by omega, fun _ => hid (m_placeOn (by omega) (by rw [show (((80 * 5 + i.toNat : Nat)) : Int).toNat = 80 * 5 + i.toNat by omega]; exact jk.1) ?_)⟩) (fun t => ⟨fun _ => nxt (fun z => by rw [← tt, t] at z; cases z.1), fun z => absurd rfl z⟩)
    · rw [show ((i.toNat : Nat) : Int) = i by omega, show ((5 : Nat) : Int) = 5 from rfl] at go
      exact ⟨by omega, fun z => by omega, fun _ => go⟩
    · rw [t] at tt
      have bd := hth.2 (by
        have : t_thr (w_t S 5 i.toNat) S.2.2.2 = w_thr S 5 i.toNat := rfl
        rw [this, ← tt])
      rw [show (((80 * 5 + i.toNat : Nat)) : Int).toNat = 80 * 5 + i.toNat by omega, r1, (bd.2.2.2.1 (by omega)).1]
      refine ⟨fun lt => nxt (fun z => by have := r_find_mem.mpr z.2.1; omega), fun ge => hid ?_⟩
      rw [show (((80 * 5 + i.toNat : Nat)) : Int).toNat = 80 * 5 + i.toNat by omega, c5, bd.1 (by omega)]
      exact ⟨by omega, fun e => nxt (fun z => z.2.2 e), fun ne => q1 ⟨i.toNat, hi5, tt.symm, r_find_mem.mp ge, ne⟩⟩
