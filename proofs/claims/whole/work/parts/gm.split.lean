/-! THE MODEL: SPLIT -/
def g_spl (pt : Nat → s_Fig) (old a b day : Int) (L R : s_Fig) (t : Nat) (x : w_T) : w_T := if (t < 400 ∨ 480 ≤ t) ∧ t_thr x day = true then (if 240 ≤ t ∧ t < 320 then (x.1, r_pov x.2.1 old a b (g_hold L (pt (t - 240))) (g_hold R (pt (t - 240))), r_part x.2.2 old a b) else (x.1, r_part x.2.1 old a b, x.2.2)) else x
theorem g_spl_1 {pt : Nat → s_Fig} {old a b day : Int} {L R : s_Fig} {t : Nat} {x : w_T} : (g_spl pt old a b day L R t x).1 = x.1 := by
  unfold g_spl
  split
  · split <;> rfl
  · rfl
theorem m_spl_things {M0 : e_M} {N0 : n_S} {z : Nat → Int} {old a b day : Int} {L R : s_Fig} {nl nr : Nat} {Q : Int → e_M → Prop} (h0 : nn_ok M0) (e0 : n_of M0 = N0) (hd : M0 4456 86 = day) (hz : ∀ s, s < 7 → 0 ≤ z s ∧ z s ≤ 80) (hs : ∀ s, s < 7 → N0.1 s = z s) (e2 : M0 4456 42 = (nl : Int)) (e3 : M0 4456 43 = (nr : Int)) (l40 : nl ≤ 400) (r40 : nr ≤ 400) (eL : j_fg M0 3600 nl = L) (eR : j_fg M0 4000 nr = R) (gL : gt_fig L) (gR : gt_fig R) (bL : s_fb L) (bR : s_fb R) (hpb : ∀ i : Nat, (i : Int) < z 3 → s_pb (N0.2.2.2.1 i)) (ha : 0 ≤ a) (hb : 0 ≤ b)
    (tm : ∀ s k : Nat, 2 ≤ s → s ≤ 6 → s ≠ 5 → (k : Int) < z s → t_thr (N0.2.1 (80 * s + k)) day = true → (s ≠ 3 → old ∈ (N0.2.1 (80 * s + k)).2.1 → (N0.2.1 (80 * s + k)).2.1.length < 8) ∧ (s = 3 → (old ∈ (N0.2.1 (80 * s + k)).2.2 → (N0.2.1 (80 * s + k)).2.2.length < 8) ∧ (old ∈ (N0.2.1 (80 * s + k)).2.1 → g_hold L (N0.2.2.2.1 k) = true → g_hold R (N0.2.2.2.1 k) = true → (N0.2.1 (80 * s + k)).2.1.length < 8)))
    (hq : ∀ M', nn_ok M' → n_of M' = n_pm N0 (p_st z 7 0) (g_spl N0.2.2.2.1 old a b day L R) → j_tfr M0 M' → Q 0 M') : ∃ j, WX12_split_127 Q j old a b 2 M0 := by
  refine m_srts (g := g_spl N0.2.2.2.1 old a b day L R) (O := fun d s M => WX12_split_127 Q d old a b s M) (I := fun d j s i M => WX12_split_137 (WX12_split_127 Q d) Q j old a b s i M) h0 e0 hz (fun d s M s2 s6 hx => ?_) (fun d M h1 h2 h3 => ?_) (fun d j s M s2 s6 hn e1 ho => ?_) (fun d j s k M s2 s6 hk k80 hn e1 eT fr fin => ?_)
  · show WX12_split_127 Q (d + 1) old a b s M
    unfold WX12_split_127 VX12_split_127
    exact ⟨fun z => by omega, fun _ => hx⟩
  · show WX12_split_127 Q (d + 1) old a b 7 M
    unfold WX12_split_127 VX12_split_127
    exact ⟨fun _ => hq M h1 h2 h3, fun z => absurd z (by decide)⟩
  · have sz : M 4483 s = z s := by rw [← n_z (M := M) (show s < 7 by omega), e1, hs s (by omega)]
    show WX12_split_137 (WX12_split_127 Q d) Q (j + 1) old a b s (z s) M
    unfold WX12_split_137 VX12_split_137
    rw [show ((s : Nat) : Int).toNat = s by omega, sz]
    refine ⟨by omega, fun _ => ?_, fun z => by omega⟩
    rw [s_w (by omega) (by omega)]
    exact ho
  · have sz : M 4483 s = z s := by rw [← n_z (M := M) (show s < 7 by omega), e1, hs s (by omega)]
    have hT : 80 * s + k < 560 := by omega
    have et : 80 * (s : Int) + (k : Int) = ((80 * s + k : Nat) : Int) := by omega
    have tm1 := tm s k (by omega) s6
    have e56 : M 4456 = M0 4456 := fr 4456 (by omega) (by omega) (by omega) (by omega) (by omega)
    have l8 : (N0.2.1 (80 * s + k)).2.1.length ≤ 8 ∧ (N0.2.1 (80 * s + k)).2.2.length ≤ 8 := by
      obtain ⟨-, -, q1, q2⟩ := k_len1 (N0 := n_of M) (y := (n_of M).2.1 (80 * s + k)) hn hT n_setT_self.symm
      have ok := hn.2.1 (80 * s + k) hT
      unfold j_ok at ok
      rw [eT] at q1 q2
      omega
    have gT : ∀ x : w_T, g_spl N0.2.2.2.1 old a b day L R (80 * s + k) x = if s ≠ 5 ∧ t_thr x day = true then (if s = 3 then (x.1, r_pov x.2.1 old a b (g_hold L (N0.2.2.2.1 k)) (g_hold R (N0.2.2.2.1 k)), r_part x.2.2 old a b) else (x.1, r_part x.2.1 old a b, x.2.2)) else x := fun x => by
      unfold g_spl
      by_cases s5 : s = 5
      · rw [if_neg (show ¬ ((80 * s + k < 400 ∨ 480 ≤ 80 * s + k) ∧ t_thr x day = true) by omega), if_neg (show ¬ (s ≠ 5 ∧ t_thr x day = true) from fun c => c.1 s5)]
      · by_cases tt : t_thr x day = true
        · rw [if_pos (show (80 * s + k < 400 ∨ 480 ≤ 80 * s + k) ∧ t_thr x day = true from ⟨by omega, tt⟩), if_pos (show s ≠ 5 ∧ t_thr x day = true from ⟨s5, tt⟩)]
          by_cases s3 : s = 3
          · rw [if_pos (show 240 ≤ 80 * s + k ∧ 80 * s + k < 320 by omega), if_pos s3, show 80 * s + k - 240 = k by omega]
          · rw [if_neg (show ¬ (240 ≤ 80 * s + k ∧ 80 * s + k < 320) by omega), if_neg s3]
        · rw [if_neg (show ¬ ((80 * s + k < 400 ∨ 480 ≤ 80 * s + k) ∧ t_thr x day = true) from fun c => tt c.2), if_neg (show ¬ (s ≠ 5 ∧ t_thr x day = true) from fun c => tt c.2)]
    have base : n_of M = n_setT (n_of M) (80 * s + k) (N0.2.1 (80 * s + k)) := by rw [← eT]; exact n_setT_self.symm
    generalize hx : N0.2.1 (80 * s + k) = x at *
    generalize hN : n_of M = N at *
    generalize hTT : 80 * s + k = T at *
    have f321 : ∀ M', nn_ok M' → n_of M' = n_setT N T (g_spl N0.2.2.2.1 old a b day L R T x) → j_tfr M M' → WX12_split_321 (WX12_split_127 Q d) (WX12_split_137 (WX12_split_127 Q d) Q j) Q old a b s k M' := fun M' v1 v2 v3 => by
      unfold WX12_split_321 VX12_split_321
      rw [s_w (x := (k : Int) + 1) (by omega) (by omega)]
      exact fin M' v1 v2 v3
    show WX12_split_137 (WX12_split_127 Q d) Q (j + 1) old a b s k M
    unfold WX12_split_137 VX12_split_137
    rw [show ((s : Nat) : Int).toNat = s by omega, sz, show M 4456 86 = day by rw [e56]; exact hd]
    refine ⟨by omega, fun z => by omega, fun _ => m_id (by omega) (by omega) ⟨fun e5 => f321 M hn ?_ j_tfr_r, fun n5 => m_isThere (by omega) k80 (fun t => ⟨fun _ => ?_, fun z => absurd z (by decide)⟩) (fun t => ⟨fun z => absurd rfl z, fun _ => f321 M hn ?_ j_tfr_r⟩)⟩⟩
    · rw [hN, gT, if_neg (by omega)]; exact base
    · rw [hN, hTT, eT] at t
      have s5 : s ≠ 5 := by omega
      have tmx := tm1 s5 hk t
      have g3 : s = 3 → g_spl N0.2.2.2.1 old a b day L R T x = (x.1, r_pov x.2.1 old a b (g_hold L (N0.2.2.2.1 k)) (g_hold R (N0.2.2.2.1 k)), r_part x.2.2 old a b) := fun s3 => by rw [gT, if_pos ⟨s5, t⟩, if_pos s3]
      have gO : s ≠ 3 → g_spl N0.2.2.2.1 old a b day L R T x = (x.1, r_part x.2.1 old a b, x.2.2) := fun s3 => by rw [gT, if_pos ⟨s5, t⟩, if_neg s3]
      have f42 : ∀ {M4 : e_M}, j_tfr M M4 → M4 4456 42 = (nl : Int) ∧ M4 4456 43 = (nr : Int) ∧ j_fg M4 3600 nl = L ∧ j_fg M4 4000 nr = R := fun {M4} v => by
        have c := v 4456 (by omega) (by omega) (by omega) (by omega) (by omega)
        exact ⟨by rw [c, e56]; exact e2, by rw [c, e56]; exact e3, by rw [j_tfr_fg (j_tfr_t fr v)]; exact eL, by rw [j_tfr_fg (j_tfr_t fr v)]; exact eR⟩
      have hp : ∀ {M4 : e_M}, s = 3 → nn_ok M4 → j_tfr M M4 → n_pt M4 k = N0.2.2.2.1 k ∧ s_pb (N0.2.2.2.1 k) ∧ (0 ≤ M4 4503 k ∧ M4 4503 k ≤ 12) := fun {M4} s3 v1 v => by
        refine ⟨?_, hpb k (by rw [← s3]; exact hk), v1.2.2.2.1 k k80⟩
        rw [j_tfr_pt (j_tfr_t fr v), ← n_v k80, e0]
      -- the other row of a SERVE
      have k267 : ∀ (M4 : e_M) (row : List Int), nn_ok M4 → n_of M4 = n_setT N T (x.1, row, x.2.2) → j_tfr M M4 → (s = 3 → row = r_pov x.2.1 old a b (g_hold L (N0.2.2.2.1 k)) (g_hold R (N0.2.2.2.1 k))) → (s ≠ 3 → row = r_part x.2.1 old a b) → WX12_split_267 (WX12_split_127 Q d) (WX12_split_137 (WX12_split_127 Q d) Q j) Q old a b s k (80 * (s : Int) + (k : Int)) M4 := by
        intro M4 row v1 v2 v3 w3 wO
        unfold WX12_split_267 VX12_split_267 WX12_split_284 VX12_split_284
        refine ⟨fun n3 => ⟨fun z => absurd z (by decide), fun _ => f321 M4 v1 ?_ v3⟩, fun e3 => k_placeOf et v1 hT v2 ⟨fun ge => ?_, fun lt => f321 M4 v1 ?_ v3⟩⟩
        · rw [v2, gO (by omega), wO (by omega)]
        · have ge : 0 ≤ r_find x.2.2 old := ge
          have s3 : s = 3 := by omega
          have t7 := (tmx.2 s3).1 (r_find_mem.mp ge)
          have fl := r_find_lt (l := x.2.2) (x := old)
          have le : (x.2.2.eraseIdx (r_find x.2.2 old).toNat).length = x.2.2.length - 1 := by rw [List.length_eraseIdx]; exact if_pos (by omega)
          refine k_offOf et v1 hT v2 ⟨ge, fl⟩ (fun M5 u1 u2 u3 => ?_)
          have u2 : n_of M5 = n_setT N T (x.1, row, x.2.2.eraseIdx (r_find x.2.2 old).toNat) := u2
          refine k_inOf et u1 hT u2 (by show (x.2.2.eraseIdx (r_find x.2.2 old).toNat).length < 8; omega) (by show 0 ≤ r_find x.2.2 old ∧ r_find x.2.2 old ≤ ((x.2.2.eraseIdx (r_find x.2.2 old).toNat).length : Int); omega) (fun M6 p1 p2 p3 => ?_)
          have p2 : n_of M6 = n_setT N T (x.1, row, r_in (x.2.2.eraseIdx (r_find x.2.2 old).toNat) (r_find x.2.2 old).toNat b) := p2
          have li : (r_in (x.2.2.eraseIdx (r_find x.2.2 old).toNat) (r_find x.2.2 old).toNat b).length = (x.2.2.eraseIdx (r_find x.2.2 old).toNat).length + 1 := r_in_len
          refine k_inOf et p1 hT p2 (by show (r_in (x.2.2.eraseIdx (r_find x.2.2 old).toNat) (r_find x.2.2 old).toNat b).length < 8; omega) (by show 0 ≤ r_find x.2.2 old ∧ r_find x.2.2 old ≤ ((r_in (x.2.2.eraseIdx (r_find x.2.2 old).toNat) (r_find x.2.2 old).toNat b).length : Int); omega) (fun M7 q1 q2 q3 => f321 M7 q1 ?_ (j_tfr_t v3 (j_tfr_t u3 (j_tfr_t p3 q3))))
          rw [q2, g3 s3, w3 s3, r_part_in ge l8.2 (fun _ _ => t7), if_neg (show ¬ a < 0 by omega), if_neg (show ¬ b < 0 by omega)]
        · have lt : r_find x.2.2 old < 0 := lt
          have s3 : s = 3 := by omega
          rw [v2, g3 s3, w3 s3, r_part_id (fun m => by have := r_find_mem.mpr m; omega)]
      refine k_placeOn et hn hT (hN.trans base) ⟨fun lt => k267 M x.2.1 hn (hN.trans base) j_tfr_r (fun _ => ?_) (fun _ => ?_), fun ge => ?_⟩
      · unfold r_pov
        rw [if_neg (fun m => by have := r_find_mem.mpr m; omega)]
      · rw [r_part_id (fun m => by have := r_find_mem.mpr m; omega)]
      have fl := r_find_lt (l := x.2.1) (x := old)
      have mem := r_find_mem.mp ge
      generalize hkk : r_find x.2.1 old = kk at *
      have le : (x.2.1.eraseIdx kk.toNat).length = x.2.1.length - 1 := by rw [List.length_eraseIdx]; exact if_pos (by omega)
      refine k_offOn et hn hT (hN.trans base) ⟨ge, fl⟩ (fun M4 v1 v2 v3 => ?_)
      have v2 : n_of M4 = n_setT N T (x.1, x.2.1.eraseIdx kk.toNat, x.2.2) := v2
      -- the last one in
      have k258 : ∀ (M5 : e_M) (row : List Int), nn_ok M5 → n_of M5 = n_setT N T (x.1, row, x.2.2) → j_tfr M M5 → row.length < 8 → kk ≤ (row.length : Int) → (s = 3 → r_in row kk.toNat a = r_pov x.2.1 old a b (g_hold L (N0.2.2.2.1 k)) (g_hold R (N0.2.2.2.1 k))) → (s ≠ 3 → r_in row kk.toNat a = r_part x.2.1 old a b) → WX12_split_258 (WX12_split_127 Q d) (WX12_split_137 (WX12_split_127 Q d) Q j) Q old a b s k (80 * (s : Int) + (k : Int)) kk M5 := by
        intro M5 row u1 u2 u3 r8 rk w3 wO
        unfold WX12_split_258 VX12_split_258
        exact k_inOn et u1 hT u2 r8 ⟨ge, rk⟩ (fun M6 p1 p2 p3 => k267 M6 _ p1 p2 (j_tfr_t u3 p3) w3 wO)
      have k236 : ∀ (M5 : e_M) (row : List Int), nn_ok M5 → n_of M5 = n_setT N T (x.1, row, x.2.2) → j_tfr M M5 → kk ≤ (row.length : Int) → (s ≠ 3 → row.length < 8 ∧ r_in row kk.toNat a = r_part x.2.1 old a b) → (s = 3 → g_hold L (N0.2.2.2.1 k) = true → row.length < 8 ∧ r_in row kk.toNat a = r_pov x.2.1 old a b (g_hold L (N0.2.2.2.1 k)) (g_hold R (N0.2.2.2.1 k))) → (s = 3 → g_hold L (N0.2.2.2.1 k) = false → row = r_pov x.2.1 old a b (g_hold L (N0.2.2.2.1 k)) (g_hold R (N0.2.2.2.1 k))) → WX12_split_236 (WX12_split_127 Q d) (WX12_split_137 (WX12_split_127 Q d) Q j) Q old a b s k (80 * (s : Int) + (k : Int)) kk M5 := by
        intro M5 row u1 u2 u3 rk wO wy wn
        unfold WX12_split_236 VX12_split_236
        refine ⟨fun n3 => k258 M5 row u1 u2 u3 (wO (by omega)).1 rk (fun s3 => absurd s3 (by omega)) (fun s3 => (wO s3).2), fun e3' => ?_⟩
        have s3 : s = 3 := by omega
        obtain ⟨q1, q2, q3, q4⟩ := f42 u3
        obtain ⟨w1, w2, w3⟩ := hp s3 u1 u3
        refine m_hasPoint (v := k) (f := 3600) (n := nl) rfl rfl q1 k80 (by omega) q3 gL bL w1 w2 w3 (fun y => ⟨fun z => absurd z (by decide), fun _ => k258 M5 row u1 u2 u3 (wy s3 y).1 rk (fun _ => (wy s3 y).2) (fun z => absurd s3 z)⟩) (fun y => ⟨fun _ => k267 M5 row u1 u2 u3 (fun _ => wn s3 y) (fun z => absurd s3 z), fun z => absurd rfl z⟩)
      have k226 : (s ≠ 3 ∨ g_hold R (N0.2.2.2.1 k) = true) → WX12_split_226 (WX12_split_127 Q d) (WX12_split_137 (WX12_split_127 Q d) Q j) Q old a b s k (80 * (s : Int) + (k : Int)) kk M4 := by
        intro yes
        unfold WX12_split_226 VX12_split_226
        refine k_inOn et v1 hT v2 (by show (x.2.1.eraseIdx kk.toNat).length < 8; omega) (by show 0 ≤ kk ∧ kk ≤ ((x.2.1.eraseIdx kk.toNat).length : Int); omega) (fun M5 u1 u2 u3 => ?_)
        have u2 : n_of M5 = n_setT N T (x.1, r_in (x.2.1.eraseIdx kk.toNat) kk.toNat b, x.2.2) := u2
        have li : (r_in (x.2.1.eraseIdx kk.toNat) kk.toNat b).length = (x.2.1.eraseIdx kk.toNat).length + 1 := r_in_len
        refine k236 M5 _ u1 u2 (j_tfr_t v3 u3) (by omega) (fun n3 => ?_) (fun s3 y => ?_) (fun s3 y => ?_)
        · have t7 := tmx.1 n3 mem
          refine ⟨by omega, ?_⟩
          rw [r_part_in (by rw [hkk]; exact ge) l8.1 (fun _ _ => t7), hkk, if_neg (show ¬ a < 0 by omega), if_neg (show ¬ b < 0 by omega)]
        · have yR := yes.resolve_left (fun z => z s3)
          have t7 := (tmx.2 s3).2 mem y yR
          refine ⟨by omega, ?_⟩
          rw [r_pov_in (by rw [hkk]; exact ge) ha hb l8.1 (fun _ _ => t7), hkk, if_pos y, if_pos yR]
        · have yR := yes.resolve_left (fun z => z s3)
          rw [r_pov_in (by rw [hkk]; exact ge) ha hb l8.1 (fun z _ => by rw [y] at z; cases z), hkk, if_neg (by rw [y]; decide), if_pos yR]
      refine ⟨fun n3 => k226 (Or.inl (by omega)), fun e3' => ?_⟩
      have s3 : s = 3 := by omega
      obtain ⟨q1, q2, q3, q4⟩ := f42 v3
      obtain ⟨w1, w2, w3⟩ := hp s3 v1 v3
      refine m_hasPoint (v := k) (f := 4000) (n := nr) rfl rfl q2 k80 (by omega) q4 gR bR w1 w2 w3 (fun y => ⟨fun z => absurd z (by decide), fun _ => k226 (Or.inr y)⟩) (fun y => ⟨fun _ => ?_, fun z => absurd rfl z⟩)
      refine k236 M4 _ v1 v2 v3 (by omega) (fun n3 => absurd s3 n3) (fun s3 yL => ⟨by omega, ?_⟩) (fun s3 yL => ?_)
      · rw [r_pov_in (by rw [hkk]; exact ge) ha hb l8.1 (fun _ z => by rw [y] at z; cases z), hkk, if_pos yL, if_neg (by rw [y]; decide)]
      · rw [r_pov_in (by rw [hkk]; exact ge) ha hb l8.1 (fun _ z => by rw [y] at z; cases z), hkk, if_neg (by rw [yL]; decide), if_neg (by rw [y]; decide)]
    · rw [hN, hTT, eT] at t
      rw [hN, gT, if_neg (fun c => by rw [t] at c; cases c.2)]
      exact base
