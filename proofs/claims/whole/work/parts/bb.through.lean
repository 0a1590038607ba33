/-! THE MODEL: all DEEDS that count, in their order -/
/-- what the way to the line leaves alone -/
def tt_fr (M N : e_M) : Prop := (∀ b, b ≠ 4456 → b ≠ 4524 → b ≠ 4525 → b ≠ 4526 → N b = M b) ∧ ∀ k, k ≠ 98 → N 4456 k = M 4456 k
theorem tt_fr_refl {M : e_M} : tt_fr M M := ⟨fun _ _ _ _ _ => rfl, fun _ _ => rfl⟩
theorem tt_fr_trans {M N L : e_M} (h1 : tt_fr M N) (h2 : tt_fr N L) : tt_fr M L := ⟨fun b b1 b2 b3 b4 => by rw [h2.1 b b1 b2 b3 b4, h1.1 b b1 b2 b3 b4], fun k hk => by rw [h2.2 k hk, h1.2 k hk]⟩
/-- the line as the model keeps it -/
def t_ln (N : e_M) (L : List Int) (T : Nat → Int) : Prop := N 4456 98 = (L.length : Int) ∧ ∀ j : Nat, j < L.length → N 4525 j = v_at L j + 1 ∧ N 4526 j = T (v_at L j).toNat + 1
theorem m_into {N : e_M} {H : Int → Int → Int → e_M → Prop} {Q : e_M → Prop} {day known n : Int} {k : Nat} {L : List Int} {T : Nat → Int} {D : Int → Int} (hn : 0 ≤ n ∧ n ≤ 150) (hk : (k : Int) < n) (hl : t_ln N L T) (hlen : L.length ≤ k) (hL : ∀ y ∈ L, 0 ≤ y ∧ y < n) (hT : ∀ i : Nat, (i : Int) < n → N 4523 (i + 1) = T i + 1 ∧ 0 ≤ T i ∧ T i < n) (hD : ∀ y : Int, y = k ∨ y ∈ L → N 4462 (T y.toNat + 1).toNat = D y)
    (hq : ∀ N', tt_fr N N' → N' 4524 = N 4524 → t_ln N' (v_put D L k) T → WX12_through_224 H Q day known (((k + 1 : Nat)) : Int) N') : ∃ j, WX12_through_122 H Q j day known (((k + 1 : Nat)) : Int) (N 4456 98) N := by
  obtain ⟨l1, l2⟩ := hl
  have tk : (((k + 1 : Nat)) : Int).toNat = k + 1 := by omega
  have hTk := hT k hk
  have dk := hD k (Or.inl rfl)
  rw [show ((k : Nat) : Int).toNat = k by omega] at dk
  refine ⟨_, s_iter (σ := Int × e_M) (P := fun dd s => WX12_through_122 H Q dd day known (((k + 1 : Nat)) : Int) s.1 s.2) (fun s => s.1.toNat) (fun s => (0 ≤ s.1 ∧ s.1 ≤ L.length) ∧ v_pos D L (D k) s.1.toNat = v_pos D L (D k) L.length ∧ (∀ b, b ≠ 4525 → b ≠ 4526 → s.2 b = N b) ∧ ∀ j : Nat, s.2 4525 j = (if s.1 < j ∧ (j : Int) ≤ L.length then N 4525 (j - 1) else N 4525 j) ∧ s.2 4526 j = (if s.1 < j ∧ (j : Int) ≤ L.length then N 4526 (j - 1) else N 4526 j)) ?_ _ (N 4456 98, N) ⟨by show 0 ≤ N 4456 98 ∧ N 4456 98 ≤ _; omega, by show v_pos D L (D k) (N 4456 98).toNat = _; rw [l1]; rfl, fun _ _ _ => rfl, fun j => ?_⟩ (Nat.lt_succ_self _)⟩
  · intro d2 ⟨x, B⟩ ⟨⟨x0, xl⟩, hp, fB, hB⟩ ih
    dsimp only at x0 xl hp fB hB ih ⊢
    obtain ⟨g, eg⟩ : ∃ g : Nat, x = g := ⟨x.toNat, by omega⟩
    subst eg
    have tg : ((g : Nat) : Int).toNat = g := by omega
    rw [tg] at hp
    -- here it is put in
    have put : v_pos D L (D k) L.length = g → WX12_through_193 H Q day known (((k + 1 : Nat)) : Int) g B := fun hpg => by
      unfold WX12_through_193 VX12_through_193
      rw [tg, tk]
      refine ⟨by omega, fun M1 e1 => ⟨by omega, by omega, fun M2 e2 M3 e3 => ?_⟩⟩
      have m23 : M1 4523 (k + 1) = T k + 1 := by rw [e1, e_up_row (by omega), fB 4523 (by omega) (by omega)]; exact hTk.1
      rw [m23] at e2
      have m98 : M2 4456 98 = (L.length : Int) := by rw [e2, e_up_row (by omega), e1, e_up_row (by omega), fB 4456 (by omega) (by omega)]; exact l1
      rw [m98, s_w (by omega) (by omega)] at e3
      have c25 : ∀ j, M3 4525 j = if j = g then (((k + 1 : Nat)) : Int) else B 4525 j := fun j => by rw [e3, e_up_row (by omega), e2, e_up_row (by omega), e1, e_up_at]
      have c26 : ∀ j, M3 4526 j = if j = g then T k + 1 else B 4526 j := fun j => by rw [e3, e_up_row (by omega), e2, e_up_at, e1, e_up_row (by omega)]
      have hv : v_put D L k = r_in L g k := by unfold v_put; rw [hpg]
      refine hq M3 ⟨fun b b1 b2 b3 b4 => by rw [e3, e_up_row b1, e2, e_up_row b4, e1, e_up_row b3]; exact fB b b3 b4, fun j hj => by rw [e3, e_up_ne (fun z => hj z.2), e2, e_up_row (by omega), e1, e_up_row (by omega), fB 4456 (by omega) (by omega)]⟩ (by rw [e3, e_up_row (by omega), e2, e_up_row (by omega), e1, e_up_row (by omega), fB 4524 (by omega) (by omega)]) ⟨?_, fun j hj => ?_⟩
      · rw [hv, r_in_len, e3, e_up_eq]; omega
      · rw [hv] at hj ⊢
        rw [r_in_len] at hj
        have gl : g ≤ L.length := by omega
        rw [v_at_in gl, c25, c26]
        by_cases c1 : j < g
        · rw [if_pos c1, if_neg (by omega), if_neg (by omega), (hB j).1, (hB j).2, if_neg (by omega), if_neg (by omega)]
          exact l2 j (by omega)
        · rw [if_neg c1]
          by_cases c2 : j = g
          · rw [if_pos c2, if_pos c2, if_pos c2, show ((k : Nat) : Int).toNat = k by omega]
            exact ⟨by omega, rfl⟩
          · rw [if_neg c2, if_neg c2, if_neg c2, (hB j).1, (hB j).2, if_pos (by omega), if_pos (by omega)]
            exact l2 (j - 1) (by omega)
    unfold WX12_through_122 VX12_through_122
    refine ⟨fun le => put ?_, fun gt => ?_⟩
    · have g0 : g = 0 := by omega
      subst g0
      rw [← hp]; rfl
    · obtain ⟨q, rfl⟩ : ∃ q, g = q + 1 := ⟨g - 1, by omega⟩
      have hq1 : q < L.length := by omega
      have l2q := l2 q hq1
      have mq := v_at_mem hq1
      have bq := hL _ mq
      have dq := hD _ (Or.inr mq)
      have hTq := hT (v_at L q).toNat (by omega)
      have b25 : B 4525 q = N 4525 q ∧ B 4526 q = N 4526 q := ⟨by rw [(hB q).1, if_neg (by omega)], by rw [(hB q).2, if_neg (by omega)]⟩
      have b23 : B 4523 (k + 1) = T k + 1 := by rw [fB 4523 (by omega) (by omega)]; exact hTk.1
      rw [s_w (x := (((q + 1 : Nat)) : Int) - 1) (by omega) (by omega), show (((q + 1 : Nat)) : Int) - 1 = (q : Int) by omega, show ((q : Nat) : Int).toNat = q by omega, b25.2, l2q.2, tk, b23, tg, fB 4462 (by omega) (by omega), dk, dq]
      have hps : v_pos D L (D k) (q + 1) = if D k < D (v_at L q) then v_pos D L (D k) q else q + 1 := rfl
      refine ⟨by omega, by omega, by omega, by omega, fun le => put ?_, fun lt => ⟨by omega, by omega, fun M1 e1 => ⟨by omega, by omega, fun M2 e2 => ?_⟩⟩⟩
      · rw [← hp, hps, if_neg (by omega)]
      · rw [hps, if_pos lt] at hp
        rw [b25.1] at e1
        have m26 : M1 4526 q = N 4526 q := by rw [e1, e_up_row (by omega)]; exact b25.2
        rw [m26] at e2
        rw [s_w (x := (((q + 1 : Nat)) : Int) + (-1)) (by omega) (by omega), show (((q + 1 : Nat)) : Int) + (-1) = (q : Int) by omega]
        refine ih ((q : Int), M2) ⟨by show (0 : Int) ≤ q ∧ (q : Int) ≤ _; omega, by show v_pos D L (D k) ((q : Int)).toNat = _; rw [show ((q : Nat) : Int).toNat = q by omega]; exact hp, fun b b1 b2 => by show M2 b = N b; rw [e2, e_up_row b2, e1, e_up_row b1]; exact fB b b1 b2, fun j => ?_⟩ (by show ((q : Int)).toNat < (((q + 1 : Nat)) : Int).toNat; omega)
        have c25 : M2 4525 j = if j = q + 1 then N 4525 q else B 4525 j := by rw [e2, e_up_row (by omega), e1, e_up_at]
        have c26 : M2 4526 j = if j = q + 1 then N 4526 q else B 4526 j := by rw [e2, e_up_at, e1, e_up_row (by omega)]
        show M2 4525 j = (if (q : Int) < j ∧ (j : Int) ≤ L.length then N 4525 (j - 1) else N 4525 j) ∧ M2 4526 j = (if (q : Int) < j ∧ (j : Int) ≤ L.length then N 4526 (j - 1) else N 4526 j)
        rw [c25, c26]
        by_cases c : j = q + 1
        · subst c
          rw [if_pos rfl, if_pos rfl, if_pos (by omega), if_pos (by omega), Nat.add_sub_cancel]
          exact ⟨rfl, rfl⟩
        · rw [if_neg c, if_neg c, (hB j).1, (hB j).2]
          by_cases c2 : (q : Int) < j ∧ (j : Int) ≤ L.length
          · rw [if_pos c2, if_pos c2, if_pos (by omega), if_pos (by omega)]
            exact ⟨rfl, rfl⟩
          · rw [if_neg c2, if_neg c2, if_neg (by omega), if_neg (by omega)]
            exact ⟨rfl, rfl⟩
  · show N 4525 j = (if N 4456 98 < j ∧ (j : Int) ≤ L.length then _ else N 4525 j) ∧ N 4526 j = (if N 4456 98 < j ∧ (j : Int) ≤ L.length then _ else N 4526 j)
    rw [if_neg (by omega), if_neg (by omega)]
    exact ⟨rfl, rfl⟩
theorem d_keep_refl {M : e_M} : d_keep M M := ⟨fun _ _ _ => rfl, fun _ _ => rfl⟩
theorem d_keep_trans {M N L : e_M} (h1 : d_keep M N) (h2 : d_keep N L) : d_keep M L := ⟨fun b hb h6 => by rw [h2.1 b hb h6, h1.1 b hb h6], fun k hk => by rw [h2.2 k hk, h1.2 k hk]⟩
/-- what the run over the line leaves alone -/
def u_keep (M M' : e_M) : Prop := (∀ b, (b < 4480 ∨ b = 4482 ∨ (4521 ≤ b ∧ b ≠ 4524)) → b ≠ 4456 → M' b = M b) ∧ ∀ k, (k < 38 ∨ (49 ≤ k ∧ k ≠ 73 ∧ k ≠ 85 ∧ k ≠ 86 ∧ k ≠ 87 ∧ k ≠ 99)) → M' 4456 k = M 4456 k
theorem u_keep_d {M N : e_M} (h : d_keep M N) : u_keep M N := ⟨fun b hb h6 => h.1 b (by omega) h6, fun k hk => h.2 k (by omega)⟩
theorem u_keep_trans {M N L : e_M} (h1 : u_keep M N) (h2 : u_keep N L) : u_keep M L := ⟨fun b hb h6 => by rw [h2.1 b hb h6, h1.1 b hb h6], fun k hk => by rw [h2.2 k hk, h1.2 k hk]⟩
/-- the DEEDS in their slots -/
def E_d (M : e_M) (n : Int) (od : Nat → Int) (V : Nat → v_D) (er : Nat → Nat) : Prop := ∀ i : Nat, (i : Int) < n → od i ≠ 222 → D_at M (i + 1) (V (er i)) ∧ v_ok (V (er i))
theorem E_d_congr {M N : e_M} {n : Int} {od : Nat → Int} {V : Nat → v_D} {er : Nat → Nat} (h : E_d M n od V er) (f : ∀ b, 4461 ≤ b → b ≤ 4476 → N b = M b) : E_d N n od V er := fun i hi ho => ⟨D_at_congr (h i hi ho).1 f, (h i hi ho).2⟩
theorem m_runs {G : w_S → Prop} {V : Nat → v_D} {U : Nat → Prop} {I : Int → w_S → Prop} (hG : ∀ S, G S → ∀ l : Nat, (l : Int) < S.1 0 → (w_l S l).1 1 = 0 → g_good (w_l S l).2.1) (hF : G_fig V G) (hI : I_good G V U I) {n day : Int} {od : Nat → Int} {er : Nat → Nat} (hU : ∀ i : Nat, (i : Int) < n → od i ≠ 222 → U (er i)) {L : List Int} {T : Nat → Int} {D : Int → Int} (hday : 0 ≤ day ∧ day ≤ 219144) (hn : 0 ≤ n ∧ n ≤ 150) (hL : ∀ y ∈ L, 0 ≤ y ∧ y < n ∧ D y ≤ day) (hlen : L.length ≤ 150) (hs : v_srt D L) (hT : ∀ y ∈ L, 0 ≤ T y.toNat ∧ T y.toNat < n ∧ od (T y.toNat).toNat ≠ 222) (hD : ∀ y ∈ L, (V (er (T y.toNat).toNat)).1 4 = D y) {S' : w_S} {F' : Nat → Int} {c' : Int} {Q : e_M → Prop} {M0 : e_M}
    (hq : ∀ M', nn_ok M' → R_S V (d_set S' day) (n_of M') (L.length + 1) → I (L.length + 1) S' → u_keep M0 M' → (∀ i : Nat, (i : Int) < n → M' 4524 (i + 1) = F' i) → M' 4456 99 = c' → M' 4456 86 = day → Q M') : ∀ (m k : Nat) (S : w_S) (F : Nat → Int) (c : Int) (N : e_M), L.length = k + m → R_all N V S ((k : Int) + 1) → I ((k : Int) + 1) S → m_mo N → E_d N n od V er → t_ln N L T → (∀ j : Nat, j < L.length → k ≤ j → S.2.2.2 ≤ D (v_at L j)) → S.2.2.2 ≤ day → (∀ i : Nat, (i : Int) < n → N 4524 (i + 1) = F i) → N 4456 99 = c → (0 ≤ c ∧ c ≤ k) → u_keep M0 N → v_run V ((L.drop k).map (fun y => (er (T y.toNat).toNat, y.toNat))) ((k : Int) + 1) S F c S' F' c' → WX12_through_246 Q (m + 1) day k N := by
  intro m
  induction m with
  | zero =>
    intro k S F c N hk h hIS hmo hE hl hdy hSd hF4 hc hcb hkp hrun
    obtain ⟨hnn, hcm, hR, hz, hg, hd⟩ := id h
    rw [List.drop_of_length_le (by omega)] at hrun
    obtain ⟨r1, r2, r3⟩ := hrun
    unfold WX12_through_246 VX12_through_246
    rw [hl.1]
    refine ⟨fun _ M1 e1 => ?_, fun z => by omega⟩
    obtain ⟨u1, u2⟩ := n_upD (M := N) (day := day) hnn
    rw [← e1] at u1 u2
    have f1 : ∀ b, b ≠ 4456 → M1 b = N b := fun b hb => by rw [e1, e_up_row hb]
    have g1 : ∀ j, j ≠ 86 → M1 4456 j = N 4456 j := fun j hj => by rw [e1, e_up_ne (fun z => hj z.2)]
    have ek : (L.length : Int) + 1 = (k : Int) + 1 := by omega
    refine hq M1 u1 ?_ (by rw [r1, ek]; exact hIS) (u_keep_trans hkp ⟨fun b hb h6 => f1 b h6, fun j hj => g1 j (by omega)⟩) (fun i hi => by rw [f1 4524 (by omega), r2]; exact hF4 i hi) (by rw [g1 99 (by omega), r3]; exact hc) (by rw [e1, e_up_eq])
    rw [u2, r1, ek]
    exact R_up hR hSd (by omega)
  | succ m ih =>
    intro k S F c N hk h hIS hmo hE hl hdy hSd hF4 hc hcb hkp hrun
    obtain ⟨hnn, hcm, hR, hz, hg, hd⟩ := id h
    have kl : k < L.length := by omega
    have my := v_at_mem kl
    have ey : v_at L k = L[k] := by unfold v_at; rw [List.getElem?_eq_getElem kl]; rfl
    rw [List.drop_eq_getElem_cons kl, ← ey] at hrun
    obtain ⟨X, hX, hrun⟩ := hrun
    dsimp only at hX hrun
    have hLy := hL _ my
    have hTy := hT _ my
    have hDy := hD _ my
    have hdyk := hdy k kl (Nat.le_refl k)
    have hlk := hl.2 k kl
    generalize hy : v_at L k = y at *
    obtain ⟨e, ee⟩ : ∃ e : Nat, y = e := ⟨y.toNat, by omega⟩
    subst ee
    have te : ((e : Nat) : Int).toNat = e := by omega
    rw [te] at hTy hDy hlk hX hrun
    obtain ⟨s, es⟩ : ∃ s : Nat, T e = s := ⟨(T e).toNat, by omega⟩
    have ts : (T e).toNat = s := by omega
    rw [ts] at hTy hDy hX
    have hEs := hE s (by omega) hTy.2.2
    have tk : ((k : Nat) : Int).toNat = k := by omega
    have hIw := hI.2.1 _ S ((V (er s)).1 4) hIS (by omega) (by omega)
    unfold WX12_through_246 VX12_through_246
    rw [hl.1, tk, hlk.2, es, show (s : Int) + 1 = ((s + 1 : Nat) : Int) by omega]
    refine ⟨fun z => by omega, fun _ => ⟨by omega, by omega, m_done (d := er s) (a := (k : Int) + 1) hG hF h hmo (by omega) hEs.1 hEs.2 (by omega) hIw hX (fun M3 v1 v2 v3 v4 => ?_)⟩⟩
    have c25 : M3 4525 k = (e : Int) + 1 := by rw [v3.1 4525 (by omega) (by omega)]; exact hlk.1
    have te1 : ((e : Int) + 1).toNat = e + 1 := by omega
    rw [hlk.1, te1]
    refine ⟨by omega, fun M4 e4 => ⟨by omega, ?_⟩⟩
    have f4 : ∀ b, b ≠ 4524 → M4 b = M3 b := fun b hb => by rw [e4, e_up_row hb]
    have c24 : ∀ j, M4 4524 j = if j = e + 1 then X.1 else M3 4524 j := fun j => by rw [e4, e_up_at]
    rw [f4 4525 (by omega), c25, te1, c24, if_pos rfl, f4 4456 (by omega), v3.2 99 (by omega), hc]
    have dX : X.2.2.2.2 = (V (er s)).1 4 := by rw [← R_day v2]; exact v4
    have hIX := hI.2.2 _ S (er s) X hIS (hU s (by omega) hTy.2.2) hEs.2 (by omega) hX
    have hz2 := hI.1 _ _ hIX
    -- on to the next
    have k299 : ∀ v, v = (if X.1 = 0 then 1 else (0 : Int)) → WX12_through_299 (WX12_through_246 Q (m + 1)) Q day k v c M4 := fun v ev => by
      unfold WX12_through_299 VX12_through_299
      intro M5 e5
      have vb : 0 ≤ v ∧ v ≤ 1 := by rw [ev]; split <;> omega
      rw [s_w (x := c + v) (by omega) (by omega)] at e5
      rw [s_w (x := (k : Int) + 1) (by omega) (by omega)]
      have f5 : ∀ b, b ≠ 4456 → b ≠ 4524 → M5 b = M3 b := fun b b1 b2 => by rw [e5, e_up_row b1, f4 b b2]
      have g5 : ∀ j, j ≠ 99 → M5 4456 j = M3 4456 j := fun j hj => by rw [e5, e_up_ne (fun z => hj z.2), f4 4456 (by omega)]
      have m24 : M5 4524 = M4 4524 := by rw [e5, e_up_row (by omega)]
      obtain ⟨w1, w2⟩ := n_same v1 (M' := M5) (fun b hb => f5 b (by omega) (by omega)) (fun j _ => ⟨by rw [f5 4480 (by omega) (by omega)], by rw [f5 4481 (by omega) (by omega)]⟩) ⟨g5 85 (by omega), g5 86 (by omega), g5 73 (by omega)⟩
      have kp5 : u_keep N M5 := u_keep_trans (u_keep_d v3) ⟨fun b hb h6 => f5 b h6 (by omega), fun j hj => g5 j (by omega)⟩
      have ek : (k : Int) + 1 = ((k + 1 : Nat) : Int) := by omega
      have h5 : R_all M5 V X.2 (((k + 1 : Nat) : Int) + 1) := ⟨w1, ⟨fun j hj => by rw [kp5.1 4457 (by omega) (by omega)]; exact hcm.1 j hj, fun l q hl hq' => by rw [kp5.1 4458 (by omega) (by omega)]; exact hcm.2 l q hl hq'⟩, by rw [w2, ← ek]; exact v2, hz2.1, hz2.2, by rw [dX]; exact hEs.2.2.2.2.1.1⟩
      rw [ek]
      refine ih (k + 1) X.2 (s_fu F e X.1) (if X.1 = 0 then c + 1 else c) M5 (by omega) h5 (by rw [← ek]; exact hIX) (fun s hs => by rw [kp5.1 4482 (by omega) (by omega)]; exact hmo s hs) (E_d_congr hE (fun b b1 b2 => kp5.1 b (by omega) (by omega))) ⟨by rw [kp5.2 98 (by omega)]; exact hl.1, fun j hj => by rw [kp5.1 4525 (by omega) (by omega), kp5.1 4526 (by omega) (by omega)]; exact hl.2 j hj⟩ (fun j hj hkj => ?_) (by rw [dX]; omega) (fun i hi => ?_) ?_ ?_ (u_keep_trans hkp kp5) ?_
      · rw [dX, hDy, ← hy]
        exact hs k j (by omega) hj
      · rw [m24, c24]
        unfold s_fu
        by_cases c' : i = e
        · rw [if_pos (by omega), if_pos c']
        · rw [if_neg (by omega), if_neg c', v3.1 4524 (by omega) (by omega)]; exact hF4 i hi
      · rw [e5, e_up_eq, ev]
        by_cases c0 : X.1 = 0
        · rw [if_pos c0, if_pos c0]
        · rw [if_neg c0, if_neg c0]; omega
      · split <;> omega
      · rw [← ek]; exact hrun
    exact ⟨by omega, fun ne => k299 0 (by rw [if_neg ne]), fun e0 => k299 1 (by rw [if_pos e0])⟩
