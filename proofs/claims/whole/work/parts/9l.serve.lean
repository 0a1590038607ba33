/-! THE MODEL: SERVE -/
def j_ps (M : e_M) (x : Nat) : s_Fig := s_ar (fun k => (M 4475 (12 * x + k), M 4476 (12 * x + k))) (M 4474 x)
def n_setV (N : n_S) (v : Nat) (f : s_Fig) : n_S := (N.1, N.2.1, N.2.2.1, s_fu N.2.2.2.1 v f, N.2.2.2.2)
theorem n_upV {M M' : e_M} {v : Nat} (h : nn_ok M) (hv : v < 80) (f : ∀ b, (b < 4503 ∨ 4505 < b) → M' b = M b) (f1 : ∀ u, u ≠ v → M' 4503 u = M 4503 u) (f2 : ∀ j, (j < 12 * v ∨ 12 * v + 12 ≤ j) → M' 4504 j = M 4504 j ∧ M' 4505 j = M 4505 j) (ho : 0 ≤ M' 4503 v ∧ M' 4503 v ≤ 12) : nn_ok M' ∧ n_of M' = n_setV (n_of M) v (n_pt M' v) := by
  obtain ⟨h1, h2, h3, h4, h5, h6⟩ := h
  refine ⟨⟨fun s hs => by rw [f _ (by omega)]; exact h1 s hs, fun u hu => ?_, fun l hl => ?_, fun u hu => ?_, fun k hk => by rw [f _ (by omega)]; exact h5 k hk, by rw [f _ (by omega)]; exact h6⟩, ?_⟩
  · have := h2 u hu
    unfold j_ok at *
    rw [f 4492 (by omega), f 4494 (by omega)]; exact this
  · have := h3 l hl
    unfold n_lok j_ok at *
    rw [f 4496 (by omega), f 4497 (by omega), f 4499 (by omega)]; exact this
  · by_cases c : u = v
    · rw [c]; exact ho
    · rw [f1 u c]; exact h4 u hu
  · refine n_of_ext (fun s => ?_) (fun u => ?_) (fun l => ?_) (fun u => ?_) (fun k => ?_) (by rw [f 4456 (by omega)]; rfl) (by rw [f 4456 (by omega)]; rfl) (by rw [f 4456 (by omega)]; rfl)
    · rw [f _ (by omega)]; rfl
    · show _ = if u < 560 then n_th M u else n_T0
      unfold n_th
      rw [n_sc_congr (M := M) (fun b b1 b2 => by rw [f b (by omega)]), j_row_congr (M := M) (f 4492 (by omega)) (f 4493 (by omega)), j_row_congr (M := M) (f 4494 (by omega)) (f 4495 (by omega))]
    · show _ = if l < 80 then n_lo M l else n_L0
      rw [n_lo_congr (M := M) (fun b hb => f b (by omega))]
    · show _ = s_fu _ v _ u
      unfold s_fu
      by_cases c : u = v
      · subst c; rw [if_pos hv, if_pos rfl]
      · rw [if_neg c]
        show _ = if u < 80 then n_pt M u else []
        by_cases c2 : u < 80
        · rw [if_pos c2, if_pos c2]
          have o := h4 u c2
          unfold n_pt
          rw [f1 u c]
          exact s_ar_congr (fun k hk => by
            have := f2 (12 * u + k) (by omega)
            rw [this.1, this.2])
        · rw [if_neg c2, if_neg c2]
    · show _ = if k < 60 then n_sa M k else n_X0
      rw [n_sa_congr (M := M) (fun b b1 b2 => f b (by omega))]
theorem m_ofNew {M : e_M} {N : n_S} {s T : Nat} {t : w_T} {l : Int} {Q : e_M → Prop} (hn : nn_ok M) (hT : T < 560) (hTe : T = 80 * s + (N.1 s).toNat) (e : n_of M = n_mk N s t) (h0 : t.2.2 = []) (hq : ∀ M', nn_ok M' → n_of M' = n_mk N s (t.1, t.2.1, [l]) → j_keep M M' → Q M') : WX12_inOf (T : Int) 0 l M Q := by
  have jk := (hn.2.1 T hT).2
  have er : j_row M 4494 4495 T = [] := by
    rw [(n_r hT).2, e]
    show (s_fu N.2.1 (80 * s + (N.1 s).toNat) t T).2.2 = []
    rw [hTe, s_fu_eq]; exact h0
  have jl := j_row_len (c := 4495) jk
  rw [er] at jl
  have jl0 : M 4494 T = 0 := jl.symm
  have tt : ((T : Nat) : Int).toNat = T := by omega
  refine m_inOf (t := (T : Int)) (by omega) (by rw [tt]; exact jk) (by rw [tt]; omega) (by rw [tt]; omega) (fun M' r1 r2 r3 => ?_)
  rw [tt] at r1 r2 r3
  rw [er] at r1
  obtain ⟨u1, u2⟩ := N_off hn hT r1 r2 r3
  refine hq M' u1 ?_ (j_keep_fr r3 (by omega) (by omega))
  rw [u2, e, n_off_mk hTe]; rfl
theorem g_hit {F : s_Fig} (hg : g_good F) {px py : Int} : (g_lie F px py 1 = 0 ↔ g_where F px py 1 = 0) := by rw [hg px py 1 (Or.inl rfl)]
theorem m_serve {M : e_M} {V : Nat → v_D} {S : w_S} {a : Int} {d x : Nat} {r : Nat → Int} {Q : Int → e_M → Prop} (h : R_all M V S a) (hm : m_mo M) (hx : x < 152) (hnm : M 4467 (10 * x) = (V d).2.1 0) (hkd : M 4466 x = (V d).1 10) (hpn : M 4474 x = (V d).1 18) (hps : j_ps M x = (V d).2.2.2.2) (hpb : s_pb (V d).2.2.2.2) (hp12 : 0 ≤ (V d).1 18 ∧ (V d).1 18 ≤ 12) (i1 : M 4520 1 = r 1) (i2 : M 4520 2 = r 2) (h1 : 0 ≤ r 1 ∧ r 1 < S.1 0) (h2 : 0 ≤ r 2 ∧ r 2 < S.1 0) (hgd : g_good (w_l S (r 2).toNat).2.1) (hq : j_q M V (a + 1) Q (X_serve V S r (fun k => (g_pt (V d).2.2.2.2 k).1) (fun k => (g_pt (V d).2.2.2.2 k).2) d a)) : WX12_serve x M Q := by
  obtain ⟨hn, hc, hR, hz, hg, hd⟩ := id h
  have h' := R_all_le h (show a ≤ a + 1 by omega)
  have m1 : w_mx 3 = 40 := rfl
  have z1 := hz 3 (by omega)
  have e83 := R_many hR (show 3 < 7 by omega)
  have n1 := R_size hR (show 3 < 7 by omega)
  obtain ⟨b, eb⟩ : ∃ b : Nat, r 2 = b := ⟨(r 2).toNat, by omega⟩
  have hb : (b : Int) < S.1 0 := by omega
  have b80 := R_mx hz (show 0 < 7 by omega) hb
  have tb : ((b : Nat) : Int).toNat = b := by omega
  have tx : ((x : Nat) : Int).toNat = x := by omega
  obtain ⟨n, en, n40, fgb, fge⟩ := R_fgb h hb
  rw [eb, tb] at hgd
  unfold X_serve at hq
  rw [eb, tb] at hq
  generalize hpx : (fun k => (g_pt (V d).2.2.2.2 k).1) = px at hq
  generalize hpy : (fun k => (g_pt (V d).2.2.2.2 k).2) = py at hq
  have pxy : ∀ k : Nat, (k : Int) < (V d).1 18 → (M 4475 (12 * x + k) = px k ∧ M 4476 (12 * x + k) = py k) ∧ (0 ≤ px k ∧ px k ≤ 999999) ∧ 0 ≤ py k ∧ py k ≤ 999999 := fun k hk => by
    have hg : (V d).2.2.2.2[k]? = some (M 4475 (12 * x + k), M 4476 (12 * x + k)) := by
      rw [← hps]
      exact s_ar_get (f := fun k => (M 4475 (12 * x + k), M 4476 (12 * x + k))) (by omega)
    have gp : g_pt (V d).2.2.2.2 k = (M 4475 (12 * x + k), M 4476 (12 * x + k)) := by unfold g_pt; rw [hg]; rfl
    have bb := hpb _ (List.mem_of_getElem? hg)
    rw [← hpx, ← hpy]
    dsimp only
    rw [gp]
    exact ⟨⟨rfl, rfl⟩, bb⟩
  have q9 : r 1 = (b : Int) → j_q M V (a + 1) Q (9, S) := fun g => j_qx (c_if_pos g) hq
  have q2 : r 1 ≠ (b : Int) → ¬ w_oab S b → j_q M V (a + 1) Q (2, S) := fun g1 g2 => j_qx ((c_if_neg g1).trans (c_if_pos g2)) hq
  have q4 : r 1 ≠ (b : Int) → w_oab S b → w_bar S b (-1) → j_q M V (a + 1) Q (4, S) := fun g1 g2 g3 => j_qx ((c_if_neg g1).trans ((c_if_neg (fun y => y g2)).trans (c_if_pos g3))) hq
  have q3 : r 1 ≠ (b : Int) → w_oab S b → ¬ w_bar S b (-1) → p_bad px py ((V d).1 18) (w_l S b).2.1 → j_q M V (a + 1) Q (3, S) := fun g1 g2 g3 g4 => j_qx ((c_if_neg g1).trans ((c_if_neg (fun y => y g2)).trans ((c_if_neg g3).trans (c_if_pos g4)))) hq
  have q7 : r 1 ≠ (b : Int) → w_oab S b → ¬ w_bar S b (-1) → ¬ p_bad px py ((V d).1 18) (w_l S b).2.1 → 40 ≤ S.1 3 → j_q M V (a + 1) Q (7, S) := fun g1 g2 g3 g4 g5 => j_qx ((c_if_neg g1).trans ((c_if_neg (fun y => y g2)).trans ((c_if_neg g3).trans ((c_if_neg g4).trans (c_if_pos g5))))) hq
  have q0 : r 1 ≠ (b : Int) → w_oab S b → ¬ w_bar S b (-1) → ¬ p_bad px py ((V d).1 18) (w_l S b).2.1 → ¬ 40 ≤ S.1 3 → j_q M V (a + 1) Q (0, _) := fun g1 g2 g3 g4 g5 => j_qx ((c_if_neg g1).trans ((c_if_neg (fun y => y g2)).trans ((c_if_neg g3).trans ((c_if_neg g4).trans (c_if_neg g5))))) hq
  clear hq
  have w12 : e_w32 (12 * (x : Int)) = 12 * (x : Int) := s_w (by omega) (by omega)
  -- the POINTS are written
  have k250 : ∀ (N : e_M) (v : Nat), v < 40 → nn_ok N → j_keep M N → N 4503 v = (V d).1 18 → (∀ N', nn_ok N' → n_of N' = n_setV (n_of N) v (V d).2.2.2.2 → j_keep N N' → Q 0 N') → ∃ j, WX12_serve_250 Q j x v 0 N := by
    intro N v hv nk kp ev hQ
    have tv : ((v : Nat) : Int).toNat = v := by omega
    refine s_up (σ := e_M) (P := fun dd i N' => WX12_serve_250 Q dd x v i N') (n := (V d).1 18) (i0 := 0) (s := N) (fun i N' => (∀ b, b ≠ 4504 → b ≠ 4505 → N' b = N b) ∧ (∀ j : Nat, (j : Int) < i → N' 4504 (12 * v + j) = px j ∧ N' 4505 (12 * v + j) = py j) ∧ ∀ j, (j < 12 * v ∨ 12 * v + 12 ≤ j) → N' 4504 j = N 4504 j ∧ N' 4505 j = N 4505 j) hp12.1 ⟨fun _ _ _ => rfl, fun j hj => by omega, fun j _ => ⟨rfl, rfl⟩⟩ ?_ ?_
    · intro d2 N' ⟨f1, f2, f3⟩
      have e74 : N' 4474 x = (V d).1 18 := by rw [f1 4474 (by omega) (by omega), kp.1 4474 (by omega), hpn]
      unfold WX12_serve_250 VX12_serve_250
      rw [tx, e74]
      refine ⟨by omega, fun _ => ?_, fun z => by omega⟩
      obtain ⟨u1, u2⟩ := n_upV nk (show v < 80 by omega) (M' := N') (fun b hb => f1 b (by omega) (by omega)) (fun u _ => by rw [f1 4503 (by omega) (by omega)]) f3 (by rw [f1 4503 (by omega) (by omega), ev]; exact hp12)
      refine hQ N' u1 ?_ (j_keep_of (fun b hb => f1 b (by omega) (by omega)))
      rw [u2]
      refine congrArg (n_setV (n_of N) v) ?_
      unfold n_pt
      rw [f1 4503 (by omega) (by omega), ev, ← hps]
      unfold j_ps
      rw [hpn]
      exact s_ar_congr (fun k hk => by
        have a1 := f2 k (by omega)
        have a2 := (pxy k (by omega)).1
        rw [a1.1, a1.2, a2.1, a2.2])
    · intro d2 i N' k1 k2 ⟨f1, f2, f3⟩ ih
      have e74 : N' 4474 x = (V d).1 18 := by rw [f1 4474 (by omega) (by omega), kp.1 4474 (by omega), hpn]
      obtain ⟨k, ek⟩ : ∃ k : Nat, i = k := ⟨i.toNat, by omega⟩
      subst ek
      have pk := (pxy k k2).1
      unfold WX12_serve_250 VX12_serve_250
      rw [tx, e74, w12, s_w (x := 12 * (v : Int)) (by omega) (by omega), s_w (x := 12 * (x : Int) + k) (by omega) (by omega), s_w (x := 12 * (v : Int) + k) (by omega) (by omega), show (12 * (x : Int) + (k : Int)).toNat = 12 * x + k by omega, show (12 * (v : Int) + (k : Int)).toNat = 12 * v + k by omega]
      refine ⟨by omega, fun z => by omega, fun _ => ⟨by omega, by omega, fun M1 e1 => ⟨by omega, by omega, fun M2 e2 => ?_⟩⟩⟩
      rw [f1 4475 (by omega) (by omega), kp.1 4475 (by omega), pk.1] at e1
      rw [e1, e_up_row (show 4476 ≠ 4504 by omega), f1 4476 (by omega) (by omega), kp.1 4476 (by omega), pk.2] at e2
      rw [s_w (by omega) (by omega)]
      have c4 : ∀ j, M2 4504 j = if j = 12 * v + k then px k else N' 4504 j := fun j => by rw [e2, e_up_row (by omega), e_up_at]
      have c5 : ∀ j, M2 4505 j = if j = 12 * v + k then py k else N' 4505 j := fun j => by rw [e2, e_up_at, e_up_row (by omega)]
      refine ih M2 ⟨fun b b4 b5 => by rw [e2, e_up_row b5, e_up_row b4]; exact f1 b b4 b5, fun j hj => ?_, fun j hj => ?_⟩
      · rw [c4, c5]
        by_cases cj : j = k
        · subst cj; rw [if_pos rfl, if_pos rfl]; exact ⟨rfl, rfl⟩
        · rw [if_neg (by omega), if_neg (by omega)]; exact f2 j (by omega)
      · rw [c4, c5, if_neg (by omega), if_neg (by omega)]; exact f3 j hj
  -- the POINTS are looked at
  have k46 : r 1 ≠ (b : Int) → w_oab S b → ¬ w_bar S b (-1) → ∃ j, WX12_serve_46 Q j x (r 1) b 0 M := by
    intro g1 g2 g3
    refine s_up (σ := Unit) (P := fun dd i _ => WX12_serve_46 Q dd x (r 1) b i M) (n := (V d).1 18) (i0 := 0) (s := ()) (fun i _ => ∀ k : Nat, (k : Int) < i → (∀ j, j < k → ¬ (px k = px j ∧ py k = py j)) ∧ g_where (w_l S b).2.1 (px k) (py k) 1 ≠ 0) hp12.1 (fun k hk => by omega) ?_ ?_
    · intro d2 _ hI
      have nb : ¬ p_bad px py ((V d).1 18) (w_l S b).2.1 := fun ⟨i, i1', i2'⟩ => by
        rcases i2' with ⟨j, j1, j2, j3⟩ | e
        · exact (hI i i1').1 j j1 ⟨j2, j3⟩
        · exact (hI i i1').2 e
      unfold WX12_serve_46 VX12_serve_46
      rw [tx, hpn, s_w (x := 10 * (x : Int)) (by omega) (by omega), show (10 * (x : Int)).toNat = 10 * x by omega, hnm]
      refine ⟨by omega, fun _ => ?_, fun z => by omega⟩
      refine m_full (s := 3) rfl hm hn (by omega) (by omega) (fun f0 => ⟨fun _ => ⟨by omega, ?_⟩, fun z => absurd rfl z⟩) (fun f1 => ⟨fun z => by omega, fun _ => j_q_no h' (q7 g1 g2 g3 nb (by omega))⟩)
      have qz := q0 g1 g2 g3 nb (by omega)
      refine m_made (s := 3) h (by omega) rfl (by omega) (fun M3 k1 k2 k3 => m_idt (t := 80 * 3 + (S.1 3).toNat) (by omega) (by omega) (by omega) ⟨by omega, by omega, fun M5 e5 => ?_⟩)
      have tt : (((80 * 3 + (S.1 3).toNat : Nat)) : Int).toNat = 80 * 3 + (S.1 3).toNat := by omega
      rw [tt, k3.1 4466 (by omega), hkd] at e5
      obtain ⟨u1, u2⟩ := N_put7 (M := M3) (t := 80 * 3 + (S.1 3).toNat) (v := (V d).1 10) k1 (by omega)
      rw [← e5, k2, n_put_mk (by rw [n1])] at u2
      rw [← e5] at u1
      have kp5 : j_keep M M5 := j_keep_trans k3 (j_keep_up e5 (by omega))
      refine m_inNew u1 (by omega) (by rw [n1]) u2 rfl (fun M6 w1 w2 w3 _ => ?_)
      refine m_ofNew w1 (by omega) (by rw [n1]) w2 rfl (fun M7 v1 v2 v3 => ?_)
      have kp7 : j_keep M M7 := j_keep_trans kp5 (j_keep_trans w3 v3)
      refine ⟨by omega, by omega, fun M8 e8 => ?_⟩
      rw [kp7.1 4474 (by omega), hpn] at e8
      have x8 : ∀ b, b ≠ 4503 → M8 b = M7 b := fun b hb => by rw [e8, e_up_row hb]
      obtain ⟨y1, y2⟩ := n_upV v1 (v := (S.1 3).toNat) (show (S.1 3).toNat < 80 by omega) (M' := M8) (fun b hb => x8 b (by omega)) (fun u hu => by rw [e8, e_up_ne (fun z => hu z.2)]) (fun j _ => ⟨by rw [x8 4504 (by omega)], by rw [x8 4505 (by omega)]⟩) (by rw [e8, e_up_eq]; exact hp12)
      have kp8 : j_keep M M8 := j_keep_trans kp7 (j_keep_of (fun b hb => x8 b (by omega)))
      have k250' := k250 M8 (S.1 3).toNat (by omega) y1 kp8 (by rw [e8, e_up_eq]) (fun N' o1 o2 o3 => ?_)
      · rw [show (((S.1 3).toNat : Nat) : Int) = S.1 3 by omega] at k250'
        exact k250'
      refine qz N' o1 ?_ (j_keep_trans kp8 o3)
      rw [o2, y2, v2]
      refine R_addT (s := 3) (t := (s_fu (n_new (n_of M) ((V d).2.1 0)).1 7 ((V d).1 10), [(b : Int)], [r 1])) hR hz (by omega) (by omega) ⟨?_, ?_⟩ (fun z => by omega) (fun _ => ⟨?_, ?_, fun _ => ⟨fun z => absurd rfl z, fun z => by omega, fun _ => ⟨?_, rfl, rfl⟩, fun z => absurd rfl z, fun z => by omega, fun z => by omega, fun _ => ⟨?_, ?_⟩⟩⟩) rfl rfl ?_ (fun j hj => ?_) (fun _ => ?_) rfl rfl rfl
      · simp [s_fu, n_new]
      · simp [s_fu, w_new, t_new]
      · simp [s_fu, n_new, w_new, t_new]
      · unfold t_thr
        simp [s_fu, n_new, w_new, t_new]
        constructor <;> intro _ <;> omega
      · simp [s_fu, n_new, w_new, t_new]
      · simp [s_fu, n_new]
      · simp [s_fu, w_new, t_new]
      · rfl
      · have hj' : j ≠ (S.1 3).toNat := fun z => hj ⟨rfl, z⟩
        show s_fu (s_fu (s_fu (n_of M).2.2.2.1 ((n_of M).1 3).toNat []) (S.1 3).toNat _) (S.1 3).toNat _ j = (n_of M).2.2.2.1 j
        rw [s_fu_ne hj', s_fu_ne hj', n1, s_fu_ne hj']
      · show s_fu (s_fu (s_fu (n_of M).2.2.2.1 ((n_of M).1 3).toNat []) (S.1 3).toNat _) (S.1 3).toNat _ (S.1 3).toNat = _
        rw [s_fu_eq]
        have : ((s_fu (w_new S 3 ((V d).2.1 0) (d : Int) a).1 7 ((V d).1 10)) 11).toNat = d := by simp [s_fu, w_new, t_new]
        rw [this]
    · intro d2 i _ k1 k2 hI ih
      obtain ⟨k, ek⟩ : ∃ k : Nat, i = k := ⟨i.toNat, by omega⟩
      subst ek
      have pk := pxy k k2
      unfold WX12_serve_46 VX12_serve_46
      rw [tx, hpn, w12, s_w (x := 12 * (x : Int) + k) (by omega) (by omega), show (12 * (x : Int) + (k : Int)).toNat = 12 * x + k by omega]
      refine ⟨by omega, fun z => by omega, fun _ => ⟨by omega, fun y9 e9 => ⟨by omega, fun y10 e10 => ?_⟩⟩⟩
      rw [pk.1.1] at e9
      rw [pk.1.2] at e10
      subst e9 e10
      have bad : (∃ j, j < k ∧ px k = px j ∧ py k = py j) ∨ g_where (w_l S b).2.1 (px k) (py k) 1 = 0 → Q 3 M := fun hb3 => j_q_no h' (q3 g1 g2 g3 ⟨k, k2, hb3⟩)
      show ∃ j, WX12_serve_88 (WX12_serve_46 Q d2) Q j x (r 1) b k (px k) (py k) 0 M
      refine s_up (σ := Unit) (P := fun dd i _ => WX12_serve_88 (WX12_serve_46 Q d2) Q dd x (r 1) b k (px k) (py k) i M) (n := (k : Int)) (i0 := 0) (s := ()) (fun i _ => ∀ j : Nat, (j : Int) < i → ¬ (px k = px j ∧ py k = py j)) (by omega) (fun j hj => by omega) ?_ ?_
      · intro d3 _ hJ
        unfold WX12_serve_88 VX12_serve_88
        rw [tb, en, s_w (x := 40 * (b : Int)) (by omega) (by omega)]
        refine ⟨fun _ => ⟨by omega, m_lieAt (f := 40 * b) (n := n) (by omega) rfl (by omega) fgb (by omega) (by omega) (Or.inl rfl) ?_⟩, fun z => by omega⟩
        rw [fge]
        refine ⟨fun ne => ?_, fun e => bad (Or.inr ((g_hit hgd).mp e))⟩
        rw [s_w (by omega) (by omega)]
        refine ih () (fun k' hk' => ?_)
        by_cases ck : k' = k
        · subst ck
          exact ⟨fun j hj => hJ j (by omega), fun e => ne ((g_hit hgd).mpr e)⟩
        · exact hI k' (by omega)
      · intro d3 i2' _ b1 b2 hJ ih2
        obtain ⟨j, ej⟩ : ∃ j : Nat, i2' = j := ⟨i2'.toNat, by omega⟩
        subst ej
        have pj := (pxy j (by omega)).1
        have k131 : ¬ (px k = px j ∧ py k = py j) → WX12_serve_131 (WX12_serve_46 Q d2) (WX12_serve_88 (WX12_serve_46 Q d2) Q d3) Q x (r 1) b k (px k) (py k) j M := fun hno => by
          unfold WX12_serve_131 VX12_serve_131
          rw [s_w (by omega) (by omega)]
          refine ih2 () (fun j' hj' => ?_)
          by_cases cj : j' = j
          · rw [cj]; exact hno
          · exact hJ j' (by omega)
        unfold WX12_serve_88 VX12_serve_88
        rw [w12, s_w (x := 12 * (x : Int) + j) (by omega) (by omega), show (12 * (x : Int) + (j : Int)).toNat = 12 * x + j by omega, pj.1, pj.2]
        exact ⟨fun z => by omega, fun _ => ⟨by omega, fun ne => k131 (fun c => ne c.1.symm), fun e => ⟨by omega, fun ne => k131 (fun c => ne c.2.symm), fun e2 => bad (Or.inl ⟨j, by omega, e.symm, e2.symm⟩)⟩⟩⟩
  unfold WX12_serve VX12_serve
  rw [show (1 : Int).toNat = 1 from rfl, show (2 : Int).toNat = 2 from rfl, i1, i2, eb]
  refine ⟨by omega, by omega, fun ne => m_areAble h hb (fun ab => ⟨fun _ => m_isBarred h (fun bb => ⟨fun z => by omega, fun _ => j_q_no h' (q4 ne ab bb)⟩) (fun nb => ⟨fun _ => k46 ne ab nb, fun z => absurd rfl z⟩), fun z => by omega⟩) (fun ab => ⟨fun z => absurd rfl z, fun _ => j_q_no h' (q2 ne ab)⟩), fun e => j_q_no h' (q9 e)⟩
