/-! many things changed, on both sides; THE MODEL: a FIRM closed -/
theorem R_things {V : Nat → v_D} {S S' : w_S} {N N' : n_S} {a : Int} (hR : R_S V S N a) (hz : R_z S) (e1 : S'.1 = S.1) (e2 : S'.2.1 = S.2.1) (e3 : S'.2.2.2 = S.2.2.2) (n1 : N'.1 = N.1) (n0 : ∀ i : Nat, (i : Int) < S.1 0 → N'.2.1 i = N.2.1 i) (n2 : N'.2.2 = N.2.2) (hm : ∀ s i : Nat, 1 ≤ s → s < 7 → (i : Int) < S.1 s → (w_t S' s i).1 1 = (w_t S s i).1 1 ∧ (N'.2.1 (80 * s + i)).1 1 = (N.2.1 (80 * s + i)).1 1) (h11 : ∀ i : Nat, (i : Int) < S.1 3 → (w_t S' 3 i).1 11 = (w_t S 3 i).1 11) (hp : ∀ i : Nat, (i : Int) < S.1 1 → R_p i (w_t S' 1 i) (N'.2.1 (80 * 1 + i))) (ht : ∀ s i : Nat, 2 ≤ s → s ≤ 6 → (i : Int) < S.1 s → R_t S.2.2.2 s (w_t S' s i) (N'.2.1 (80 * s + i))) (h7 : ∀ k : Nat, (k : Int) < S.1 7 → w_t S' 7 k = w_t S 7 k) : R_S V S' N' a := by
  obtain ⟨a1, a2, a3, a4, a5, a6, a7, a8, a9, b1, b2, b3, b4⟩ := hR
  refine ⟨⟨fun s hs => by rw [n1, e1]; exact a1.1 s hs, by rw [n2, e1]; exact a1.2⟩, by rw [n2, e3]; exact a2, fun j hj => ?_, fun j hj => ?_, fun r j r2 r6 hj => ?_, fun j hj => ?_, fun k hk => ?_, fun k j hk hj => ?_, fun c j hc hj => ?_, fun r j r1 r8 hj => ?_, fun r j r7 hj => ?_, fun k hk => ?_, ?_⟩
  · rw [e1] at hj
    rw [e2, n0 j hj, n2]; exact a3 j hj
  · rw [e1] at hj; exact hp j hj
  · rw [e1] at hj
    rw [e3]; exact ht r j r2 r6 hj
  · rw [e1] at hj
    rw [n2, h11 j hj]; exact a6 j hj
  · rw [e1] at hk
    rw [h7 k hk, n2]; exact a7 k hk
  · rw [e1] at hk hj
    rw [h7 k hk, (hm 6 j (by omega) (by omega) hj).1, (hm 6 j (by omega) (by omega) hj).2, n2]; exact a8 k j hk hj
  · rw [e1] at hc hj
    rw [(hm 4 j (by omega) (by omega) hj).1, (hm 4 j (by omega) (by omega) hj).2, (hm 2 c (by omega) (by omega) hc).1, (hm 2 c (by omega) (by omega) hc).2]; exact a9 c j hc hj
  · rw [e1] at hj
    by_cases c : r = 7
    · subst c
      rw [h7 j hj]; exact b1 7 j r1 r8 hj
    · rw [(hm r j r1 (by omega) hj).1]; exact b1 r j r1 r8 hj
  · rw [e1] at hj
    rw [n2]
    by_cases c : r = 0
    · subst c
      rw [show 80 * 0 + j = j by omega, n0 j hj]
      have := b2 0 j r7 hj
      rw [show 80 * 0 + j = j by omega] at this; exact this
    · rw [(hm r j (by omega) r7 hj).2]; exact b2 r j r7 hj
  · rw [e1] at hk
    rw [n2]; exact b3 k hk
  · rw [n2, e1]; exact b4
theorem w_map_at {S : w_S} {lo up s i : Nat} {f : Nat → w_T → w_T} (hz : R_z S) (hs : 1 ≤ s ∧ s < 8) (hi : (i : Int) < S.1 s) : w_t (w_map S lo up f) s i = if lo ≤ s ∧ s ≤ up then f s (w_t S s i) else w_t S s i := by
  have him := R_lt hz hs.2 hi
  have e := w_srt_F hs him
  have lt := w_F_lt s hs.2 hs.1
  show (if w_mpc S lo (up + 1) 0 (w_F s + i) = true then f (w_srt (w_F s + i)) (S.2.2.1 (w_F s + i)) else S.2.2.1 (w_F s + i)) = _
  rw [e]
  by_cases c : lo ≤ s ∧ s ≤ up
  · rw [if_pos c, if_pos (w_mpc_iff.mpr ⟨by rw [e]; exact c.1, by omega, Or.inl ⟨by rw [e]; omega, by rw [e, Nat.add_sub_cancel_left]; exact hi⟩⟩)]
    rfl
  · rw [if_neg c, if_neg (fun h => ?_)]
    · rfl
    · obtain ⟨h1, h2, h3⟩ := w_mpc_iff.mp h
      rw [e] at h1 h3
      rcases h3 with ⟨h4, -⟩ | ⟨h4, h5⟩
      · omega
      · subst h4; omega
/-- things changed on the model's side -/
def n_pm (N : n_S) (p : Nat → Bool) (g : Nat → w_T → w_T) : n_S := (N.1, fun t => if p t = true then g t (N.2.1 t) else N.2.1 t, N.2.2)
theorem n_pm_at {N : n_S} {p : Nat → Bool} {g : Nat → w_T → w_T} {t : Nat} : (n_pm N p g).2.1 t = if p t = true then g t (N.2.1 t) else N.2.1 t := rfl
theorem n_pm_0 {N : n_S} {p : Nat → Bool} {g : Nat → w_T → w_T} (h : ∀ t, p t = false) : n_pm N p g = N := by
  unfold n_pm
  refine Prod.ext rfl (Prod.ext (funext fun t => ?_) rfl)
  show (if p t = true then _ else _) = _
  rw [h t, if_neg (by decide)]
theorem n_pm_step {N : n_S} {p p' : Nat → Bool} {g : Nat → w_T → w_T} {T : Nat} (h0 : p T = false) (h : ∀ t, p' t = (p t || decide (t = T))) : n_pm N p' g = n_setT (n_pm N p g) T (g T ((n_pm N p g).2.1 T)) := by
  have e : (n_pm N p g).2.1 T = N.2.1 T := by rw [n_pm_at, h0, if_neg (by decide)]
  rw [e]
  unfold n_pm n_setT
  refine Prod.ext rfl (Prod.ext (funext fun t => ?_) rfl)
  show (if p' t = true then g t (N.2.1 t) else N.2.1 t) = s_fu (fun t => if p t = true then g t (N.2.1 t) else N.2.1 t) T (g T (N.2.1 T)) t
  unfold s_fu
  rw [h t]
  by_cases c : t = T
  · rw [if_pos c, decide_eq_true c, Bool.or_true, if_pos rfl, c]
  · rw [if_neg c, decide_eq_false c, Bool.or_false]
theorem n_setT_self {N : n_S} {T : Nat} : n_setT N T (N.2.1 T) = N := by
  unfold n_setT
  refine Prod.ext rfl (Prod.ext (funext fun t => ?_) rfl)
  show s_fu N.2.1 T (N.2.1 T) t = N.2.1 t
  unfold s_fu
  split
  · next c => rw [c]
  · rfl
theorem n_pm_skip {N : n_S} {p p' : Nat → Bool} {g : Nat → w_T → w_T} {T : Nat} (h0 : p T = false) (h : ∀ t, p' t = (p t || decide (t = T))) (hg : g T (N.2.1 T) = N.2.1 T) : n_pm N p' g = n_pm N p g := by
  have e : (n_pm N p g).2.1 T = N.2.1 T := by rw [n_pm_at, h0, if_neg (by decide)]
  rw [n_pm_step h0 h, e, hg, ← e, n_setT_self]
theorem m_isOwner {M : e_M} {l : Nat} {p : Int} {Q : Int → Prop} (h : nn_ok M) (hl : l < 80) (q1 : 0 ≤ o_fd (j_own M l) p → Q 1) (q0 : ¬ 0 ≤ o_fd (j_own M l) p → Q 0) : WX12_isOwner l p M Q := by
  have hj := (h.2.2.1 l hl).2.2
  obtain ⟨j0, j8⟩ := id hj
  have em : (j_own M l).map (fun q => q.1) = s_ar (fun k => M 4498 (8 * l + k)) (M 4497 l) := s_ar_map
  unfold o_fd at q1 q0
  rw [em] at q1 q0
  unfold WX12_isOwner VX12_isOwner
  refine s_up (σ := Unit) (P := fun dd i _ => WX12_isOwner_2 M Q dd l p i) (n := M 4497 l) (i0 := 0) (s := ()) (fun i _ => ∀ j : Nat, (j : Int) < i → M 4498 (8 * l + j) ≠ p) j0 (fun j hj => by omega) ?_ ?_
  · intro d2 _ hi
    unfold WX12_isOwner_2 VX12_isOwner_2
    rw [show ((l : Nat) : Int).toNat = l by omega]
    refine ⟨by omega, fun _ => q0 (fun z => ?_), fun z => by omega⟩
    obtain ⟨j, hj, e⟩ := s_ar_mem.mp (r_find_mem.mp z)
    exact hi j (by omega) e
  · intro d2 i _ k1 k2 hi ih
    unfold WX12_isOwner_2 VX12_isOwner_2
    rw [show ((l : Nat) : Int).toNat = l by omega, s_w (x := 8 * (l : Int)) (by omega) (by omega), s_w (x := 8 * (l : Int) + i) (by omega) (by omega), show (8 * (l : Int) + i).toNat = 8 * l + i.toNat by omega]
    refine ⟨by omega, fun z => by omega, fun _ => ⟨by omega, fun ne => ?_, fun e => q1 (r_find_mem.mpr (s_ar_mem.mpr ⟨i.toNat, by omega, e⟩))⟩⟩
    rw [s_w (by omega) (by omega)]
    refine ih () (fun j hj => ?_)
    by_cases c : (j : Int) = i
    · rw [show j = i.toNat by omega]; exact ne
    · exact hi j (by omega)
/-- the CAUTIONS of one who goes -/
def g_clo (p : Int) (_ : Nat) (t : w_T) : w_T := if t.1 5 = p then (s_fu t.1 2 1, t.2) else t
def p_upto (s : Nat) (i : Int) (t : Nat) : Bool := decide (80 * s ≤ t ∧ (t : Int) < 80 * s + i)
theorem p_upto_0 {s t : Nat} : p_upto s 0 t = false := decide_eq_false (by omega)
theorem p_upto_S {s t : Nat} {i : Int} (h : 0 ≤ i) : p_upto s (i + 1) t = (p_upto s i t || decide (t = 80 * s + i.toNat)) := by
  unfold p_upto
  by_cases c : t = 80 * s + i.toNat
  · rw [decide_eq_true c, Bool.or_true, decide_eq_true (by omega)]
  · rw [decide_eq_false c, Bool.or_false]
    by_cases c2 : 80 * s ≤ t ∧ (t : Int) < 80 * s + i
    · rw [decide_eq_true c2, decide_eq_true (by omega)]
    · rw [decide_eq_false c2, decide_eq_false (by omega)]
theorem p_upto_T {s : Nat} {i : Int} (h : 0 ≤ i) : p_upto s i (80 * s + i.toNat) = false := decide_eq_false (by omega)
theorem m_close {M : e_M} {V : Nat → v_D} {S : w_S} {a : Int} {r : Nat → Int} {Q : Int → e_M → Prop} (h : R_all M V S a) (i0 : M 4520 0 = r 0) (h0 : 0 ≤ r 0 ∧ r 0 < S.1 1) (n0 : (w_t S 1 (r 0).toNat).1 7 = 1) (hr0 : r 0 ≠ 0) (h3 : ∀ i : Nat, (i : Int) < S.1 3 → (w_t S 3 i).1 5 = -1) (hq : j_q M V a Q (X_close S r)) : WX12_close M Q := by
  obtain ⟨hn, hc, hR, hz, hg, hd⟩ := id h
  obtain ⟨p, e0⟩ : ∃ p : Nat, r 0 = p := ⟨(r 0).toNat, by omega⟩
  have ep : (r 0).toNat = p := by omega
  have hp : (p : Int) < S.1 1 := by omega
  have p80 := R_mx hz (show 1 < 7 by omega) hp
  rw [ep] at n0
  obtain ⟨-, -, -, -, -, -, -, c7⟩ := n_c (M := M) (t := 80 * 1 + p) (by omega)
  have e7 : ((n_of M).2.1 (80 * 1 + p)).1 7 = 1 := by
    obtain ⟨-, ⟨k7, -, -⟩, -⟩ := hR.2.2.2.1 p hp
    rw [k7, if_neg (by omega)]; exact n0
  have q5 : (w_busyL S p ∨ w_busyT S p) → j_q M V a Q (5, S) := fun g => j_qx (c_if_pos (by rw [e0]; exact g)) hq
  have q0 : ¬ (w_busyL S p ∨ w_busyT S p) → j_q M V a Q (0, w_put (w_map S 2 6 (t_ends p 0)) (w_F 1 + p) 2 1) := fun g => j_qx ((c_if_neg (by rw [e0]; exact g)).trans (by rw [ep, e0])) hq
  have mn : ∀ s, s < 7 → M 4483 s = S.1 s := fun s hs => R_many hR hs
  have zs : ∀ s, s < 8 → 0 ≤ S.1 s := fun s hs => (hz s hs).1
  -- the CAUTIONS end
  have k137 : ¬ (w_busyL S p ∨ w_busyT S p) → ∃ j, WX12_close_137 Q j p 0 M := by
    intro nb
    refine s_up (σ := e_M) (P := fun dd i N => WX12_close_137 Q dd p i N) (n := S.1 5) (i0 := 0) (s := M) (fun i N => nn_ok N ∧ n_of N = n_pm (n_of M) (p_upto 5 i) (g_clo p) ∧ j_keep M N) (zs 5 (by omega)) ⟨hn, (n_pm_0 (fun t => p_upto_0)).symm, j_keep_refl⟩ ?_ ?_
    · intro d2 N ⟨b1, b2, b3⟩
      have sz : N 4483 5 = S.1 5 := by
        have : (n_of N).1 5 = (n_of M).1 5 := by rw [b2]; rfl
        rw [n_z (by omega), n_z (by omega)] at this
        rw [this]; exact mn 5 (by omega)
      unfold WX12_close_137 VX12_close_137
      rw [show (5 : Int).toNat = 5 from rfl, sz]
      refine ⟨by omega, fun _ => m_idt (t := 80 * 1 + p) (by omega) (by omega) (by omega) ⟨⟨by omega, Or.inr rfl⟩, fun M2 f2 => ?_⟩, fun z => by omega⟩
      rw [show (((80 * 1 + p : Nat)) : Int).toNat = 80 * 1 + p by omega] at f2
      obtain ⟨u1, u2⟩ := N_put2 (M := N) (t := 80 * 1 + p) (v := 1) b1 (by omega)
      rw [← f2] at u1 u2
      have hz' : R_z (w_map S 2 6 (t_ends p 0)) := hz
      have hR' : R_S V (w_map S 2 6 (t_ends p 0)) (n_of N) a := by
        have nt : ∀ s i : Nat, s < 7 → i < 80 → (n_of N).2.1 (80 * s + i) = if s = 5 ∧ (i : Int) < S.1 5 then g_clo p (80 * s + i) ((n_of M).2.1 (80 * s + i)) else (n_of M).2.1 (80 * s + i) := fun s i hs hi => by
          rw [b2, n_pm_at]
          have : p_upto 5 (S.1 5) (80 * s + i) = decide (s = 5 ∧ (i : Int) < S.1 5) := by
            have z5 := hz 5 (by omega)
            have m5 : w_mx 5 = 40 := rfl
            unfold p_upto
            by_cases c : s = 5 ∧ (i : Int) < S.1 5
            · rw [decide_eq_true c, decide_eq_true (by omega)]
            · rw [decide_eq_false c, decide_eq_false (by omega)]
          rw [this]
          by_cases c : s = 5 ∧ (i : Int) < S.1 5
          · rw [decide_eq_true c, if_pos rfl, if_pos c]
          · rw [decide_eq_false c, if_neg (by decide), if_neg c]
        have g1 : ∀ t x, (g_clo p t x).1 1 = x.1 1 := fun t x => by
          unfold g_clo; split
          · rfl
          · rfl
        have f1 : ∀ s x, (t_ends p 0 s x).1 1 = x.1 1 := fun s x => by
          unfold t_ends; split
          · split <;> rfl
          · rfl
        refine R_things hR hz rfl rfl rfl (by rw [b2]; rfl) (fun i hi => ?_) (by rw [b2]; rfl) (fun s i s1 s7 hi => ⟨?_, ?_⟩) (fun i hi => ?_) (fun i hi => ?_) (fun s i s2 s6 hi => ?_) (fun k hk => ?_)
        · have := nt 0 i (by omega) (R_mx hz (by omega) hi)
          rw [if_neg (by omega), show 80 * 0 + i = i by omega] at this
          exact this
        · rw [w_map_at hz ⟨s1, by omega⟩ hi]
          split
          · exact f1 s _
          · rfl
        · rw [nt s i s7 (R_mx hz s7 hi)]
          split
          · exact g1 _ _
          · rfl
        · rw [w_map_at hz (by omega) hi, if_pos (by omega)]
          unfold t_ends
          split
          · rw [if_neg (by omega)]; rfl
          · rfl
        · rw [w_map_at hz (by omega) hi, if_neg (by omega), nt 1 i (by omega) (R_mx hz (by omega) hi), if_neg (by omega)]
          exact hR.2.2.2.1 i hi
        · obtain ⟨r1, r2, r3⟩ := hR.2.2.2.2.1 s i s2 s6 hi
          have nbT : s ≠ 5 → w_thr S s i = true → (w_t S s i).1 5 ≠ p := fun s5 t e => nb (Or.inr ⟨s, i, s2, s6, s5, hi, t, e⟩)
          have ew : w_thr S s i = t_thr (w_t S s i) S.2.2.2 := by unfold w_thr; rw [if_neg (by omega)]; rfl
          rw [w_map_at hz (by omega) hi, if_pos (by omega), nt s i (by omega) (R_mx hz (by omega) hi)]
          by_cases tt : t_thr (w_t S s i) S.2.2.2 = true
          · have rb := r3 tt
            by_cases s5 : s = 5
            · subst s5
              rw [if_pos ⟨rfl, hi⟩]
              have e5 := rb.1 (by omega)
              unfold g_clo t_ends
              rw [e5]
              by_cases c : (w_t S 5 i).1 5 = p
              · rw [if_pos c, if_pos c, if_neg (by omega)]
                refine ⟨?_, ?_, fun z => ?_⟩
                · show s_fu _ 2 1 0 = s_fu _ 2 1 0
                  rw [s_fu_ne (by omega), s_fu_ne (by omega)]; exact r1
                · exact (t_thr_gone rfl).trans (t_thr_gone rfl).symm
                · exact absurd z (by rw [t_thr_gone rfl]; exact Bool.false_ne_true)
              · rw [if_neg c, if_neg c]; exact ⟨r1, r2, r3⟩
            · rw [if_neg (fun z => s5 z.1)]
              unfold t_ends
              rw [if_neg (nbT s5 (by rw [ew]; exact tt))]
              exact ⟨r1, r2, r3⟩
          · have tf : t_thr (w_t S s i) S.2.2.2 = false := by cases hh : t_thr (w_t S s i) S.2.2.2 with
              | false => rfl
              | true => exact absurd hh tt
            have x0 : (t_ends p 0 s (w_t S s i)).1 0 = (w_t S s i).1 0 := by
              unfold t_ends; split
              · split <;> rfl
              · rfl
            have xt : t_thr (t_ends p 0 s (w_t S s i)) S.2.2.2 = false := by
              unfold t_ends; split
              · split
                · exact tf
                · exact t_thr_gone rfl
              · exact tf
            have y0 : (if s = 5 ∧ (i : Int) < S.1 5 then g_clo p (80 * s + i) ((n_of M).2.1 (80 * s + i)) else (n_of M).2.1 (80 * s + i)).1 0 = ((n_of M).2.1 (80 * s + i)).1 0 := by
              split
              · unfold g_clo; split
                · rfl
                · rfl
              · rfl
            have yt : t_thr (if s = 5 ∧ (i : Int) < S.1 5 then g_clo p (80 * s + i) ((n_of M).2.1 (80 * s + i)) else (n_of M).2.1 (80 * s + i)) S.2.2.2 = false := by
              split
              · unfold g_clo; split
                · exact t_thr_gone rfl
                · rw [r2]; exact tf
              · rw [r2]; exact tf
            refine ⟨?_, ?_, fun z => ?_⟩
            · rw [y0, x0]; exact r1
            · rw [yt, xt]
            · rw [xt] at z; cases z
        · rw [w_map_at hz (by omega) hk, if_neg (by omega)]
      refine q0 nb M2 u1 ?_ (j_keep_trans b3 (by rw [f2]; exact j_keep_cell (by omega)))
      rw [u2]
      exact R_pgone hR' hz' hp
    · intro d2 i N k1 k2 ⟨b1, b2, b3⟩ ih
      have z5 := hz 5 (by omega)
      have m5 : w_mx 5 = 40 := rfl
      have sz : N 4483 5 = S.1 5 := by
        have : (n_of N).1 5 = (n_of M).1 5 := by rw [b2]; rfl
        rw [n_z (by omega), n_z (by omega)] at this
        rw [this]; exact mn 5 (by omega)
      obtain ⟨-, -, -, -, -, c5, -⟩ := n_c (M := N) (t := 80 * 5 + i.toNat) (by omega)
      have eT : (n_of N).2.1 (80 * 5 + i.toNat) = (n_of M).2.1 (80 * 5 + i.toNat) := by
        rw [b2, n_pm_at, p_upto_T k1, if_neg (by decide)]
      rw [eT] at c5
      have k172 : ∀ N', nn_ok N' → n_of N' = n_pm (n_of M) (p_upto 5 (i + 1)) (g_clo p) → j_keep M N' → WX12_close_172 (WX12_close_137 Q d2) Q p i N' := fun N' v1 v2 v3 => by
        unfold WX12_close_172 VX12_close_172
        rw [s_w (by omega) (by omega)]
        exact ih N' ⟨v1, v2, v3⟩
      unfold WX12_close_137 VX12_close_137
      rw [show (5 : Int).toNat = 5 from rfl, sz]
      refine ⟨by omega, fun z => by omega, fun _ => m_idt (t := 80 * 5 + i.toNat) (by omega) (by omega) (by omega) ?_⟩
      rw [show (((80 * 5 + i.toNat : Nat)) : Int).toNat = 80 * 5 + i.toNat by omega, c5]
      refine ⟨by omega, fun ne => k172 N b1 ?_ b3, fun e => m_idt (t := 80 * 5 + i.toNat) (by omega) (by omega) (by omega) ⟨⟨by omega, Or.inr rfl⟩, fun M5 f5 => ?_⟩⟩
      · rw [b2]
        exact (n_pm_skip (p_upto_T k1) (fun t => p_upto_S k1) (by unfold g_clo; rw [if_neg ne])).symm
      · rw [show (((80 * 5 + i.toNat : Nat)) : Int).toNat = 80 * 5 + i.toNat by omega] at f5
        obtain ⟨u1, u2⟩ := N_put2 (M := N) (t := 80 * 5 + i.toNat) (v := 1) b1 (by omega)
        rw [← f5] at u1 u2
        refine k172 M5 u1 ?_ (j_keep_trans b3 (by rw [f5]; exact j_keep_cell (by omega)))
        rw [u2, n_pm_step (T := 80 * 5 + i.toNat) (p := p_upto 5 i) (p_upto_T k1) (fun t => p_upto_S k1), ← b2, eT]
        unfold n_put g_clo
        rw [eT, if_pos e]
  -- nothing of the other sorts
  have k63 : ¬ w_busyL S p → ∃ j, WX12_close_63 Q j p 2 M := by
    intro nl
    refine s_up (σ := Unit) (P := fun dd i _ => WX12_close_63 Q dd p i M) (n := 7) (i0 := 2) (s := ()) (fun i _ => ∀ s j : Nat, 2 ≤ s → (s : Int) < i → s ≠ 5 → (j : Int) < S.1 s → w_thr S s j = true → (w_t S s j).1 5 ≠ p) (by omega) (fun s j s2 si => by omega) ?_ ?_
    · intro d2 _ hI
      unfold WX12_close_63 VX12_close_63
      exact ⟨fun _ => k137 (fun c => c.elim nl (fun ⟨s, j, s2, s6, s5, hj, t, e⟩ => hI s j s2 (by omega) s5 hj t e)), fun z => by omega⟩
    · intro d2 i _ k1 k2 hI ih
      have k129 : (∀ s j : Nat, (s : Int) = i → s ≠ 5 → (j : Int) < S.1 s → w_thr S s j = true → (w_t S s j).1 5 ≠ p) → WX12_close_129 (WX12_close_63 Q d2) Q p i M := fun hh => by
        unfold WX12_close_129 VX12_close_129
        rw [s_w (by omega) (by omega)]
        refine ih () (fun s j s2 si s5 hj t => ?_)
        by_cases c : (s : Int) = i
        · exact hh s j c s5 hj t
        · exact hI s j s2 (by omega) s5 hj t
      unfold WX12_close_63 VX12_close_63
      refine ⟨fun z => by omega, fun _ => ⟨fun e3 => k129 (fun s j si s5 hj t e => ?_), fun n3 => ⟨fun n5 => ?_, fun e5 => k129 (fun s j si s5 => by omega)⟩⟩⟩
      · have s3 : s = 3 := by omega
        subst s3
        rw [h3 j hj] at e
        omega
      · obtain ⟨s, es⟩ : ∃ s : Nat, i = s := ⟨i.toNat, by omega⟩
        subst es
        have s7 : s < 7 := by omega
        show ∃ j, WX12_close_84 (WX12_close_63 Q d2) Q j p s 0 M
        refine s_up (σ := Unit) (P := fun dd k _ => WX12_close_84 (WX12_close_63 Q d2) Q dd p s k M) (n := S.1 s) (i0 := 0) (s := ()) (fun k _ => ∀ j : Nat, (j : Int) < k → w_thr S s j = true → (w_t S s j).1 5 ≠ p) (zs s (by omega)) (fun j hj => by omega) ?_ ?_
        · intro d3 _ hJ
          unfold WX12_close_84 VX12_close_84
          rw [show ((s : Nat) : Int).toNat = s by omega, mn s s7]
          refine ⟨by omega, fun _ => k129 (fun s' j si s5 hj t => ?_), fun z => by omega⟩
          have e : s' = s := by omega
          subst e
          exact hJ j hj t
        · intro d3 k _ b1 b2 hJ ih2
          have hk : ((k.toNat : Nat) : Int) < S.1 s := by omega
          have k80 := R_mx hz s7 hk
          have rt := R_thr hR (by omega) s7 hk
          have k123 : ¬ (w_thr S s k.toNat = true ∧ (w_t S s k.toNat).1 5 = p) → WX12_close_123 (WX12_close_63 Q d2) (WX12_close_84 (WX12_close_63 Q d2) Q d3) Q p s k M := fun hno => by
            unfold WX12_close_123 VX12_close_123
            rw [s_w (by omega) (by omega)]
            refine ih2 () (fun j hj t e => ?_)
            by_cases c : (j : Int) = k
            · have ej : j = k.toNat := by omega
              rw [ej] at t e
              exact hno ⟨t, e⟩
            · exact hJ j (by omega) t e
          obtain ⟨k', ek⟩ : ∃ k' : Nat, k = k' := ⟨k.toNat, by omega⟩
          subst ek
          rw [show ((k' : Nat) : Int).toNat = k' by omega] at k123 rt k80
          unfold WX12_close_84 VX12_close_84
          rw [show ((s : Nat) : Int).toNat = s by omega, mn s s7, R_day hR]
          refine ⟨by omega, fun z => by omega, fun _ => m_isThere s7 k80 (fun t => ⟨fun z => by omega, fun _ => m_idt (t := 80 * s + k') (by omega) (by omega) (by omega) ?_⟩) (fun t => ⟨fun _ => k123 (fun c => by rw [← rt, t] at c; cases c.1), fun z => absurd rfl z⟩)⟩
          have th : w_thr S s k' = true := by rw [← rt]; exact t
          have hk' : (k' : Int) < S.1 s := by omega
          have e5 := R_who (s := s) hR ⟨by omega, by omega, by omega⟩ hk' th
          obtain ⟨-, -, -, -, -, c5, -⟩ := n_c (M := M) (t := 80 * s + k') (by omega)
          rw [show (((80 * s + k' : Nat)) : Int).toNat = 80 * s + k' by omega, c5, e5]
          exact ⟨by omega, fun ne => k123 (fun c => ne c.2), fun e => j_q_no h (q5 (Or.inr ⟨s, k', by omega, by omega, by omega, hk', th, e⟩))⟩
  -- no LOT
  have k25 : ∃ j, WX12_close_25 Q j p 0 M := by
    refine s_up (σ := Unit) (P := fun dd i _ => WX12_close_25 Q dd p i M) (n := S.1 0) (i0 := 0) (s := ()) (fun i _ => ∀ j : Nat, (j : Int) < i → ¬ ((w_l S j).1 1 = 0 ∧ 0 ≤ o_fd (w_l S j).2.2.2 p)) (zs 0 (by omega)) (fun j hj => by omega) ?_ ?_
    · intro d2 _ hI
      unfold WX12_close_25 VX12_close_25
      rw [show (0 : Int).toNat = 0 from rfl, mn 0 (by omega)]
      exact ⟨by omega, fun _ => k63 (fun ⟨i, i1, i2, i3⟩ => hI i i1 ⟨i2, i3⟩), fun z => by omega⟩
    · intro d2 i _ b1 b2 hI ih
      obtain ⟨l, el⟩ : ∃ l : Nat, i = l := ⟨i.toNat, by omega⟩
      subst el
      have hl : (l : Int) < S.1 0 := b2
      have l80 := R_mx hz (show 0 < 7 by omega) hl
      have k55 : ¬ ((w_l S l).1 1 = 0 ∧ 0 ≤ o_fd (w_l S l).2.2.2 p) → WX12_close_55 (WX12_close_25 Q d2) Q p l M := fun hno => by
        unfold WX12_close_55 VX12_close_55
        rw [s_w (by omega) (by omega)]
        refine ih () (fun j hj => ?_)
        by_cases c : j = l
        · rw [c]; exact hno
        · exact hI j (by omega)
      obtain ⟨-, -, c2, -⟩ := n_c (M := M) (t := l) (by omega)
      have e2 : ((n_of M).2.1 l).1 2 = (w_l S l).1 1 := (hR.2.2.1 l hl).1.2.1
      have eo := (R_lo hR hz hl).2.2
      unfold WX12_close_25 VX12_close_25
      rw [show (0 : Int).toNat = 0 from rfl, mn 0 (by omega), show ((l : Nat) : Int).toNat = l by omega, c2, e2]
      exact ⟨by omega, fun z => by omega, fun _ => ⟨by omega, fun ne => k55 (fun c => ne c.1), fun e => m_isOwner hn l80 (fun o => ⟨fun z => by omega, fun _ => j_q_no h (q5 (Or.inl ⟨l, hl, e, by rw [← eo]; exact o⟩))⟩) (fun o => ⟨fun _ => k55 (fun c => o (by rw [eo]; exact c.2)), fun z => absurd rfl z⟩)⟩⟩
  unfold WX12_close VX12_close
  rw [show (0 : Int).toNat = 0 from rfl, i0, e0]
  refine ⟨by omega, m_idt (t := 80 * 1 + p) (by omega) (by omega) (by omega) ?_⟩
  rw [show (((80 * 1 + p : Nat)) : Int).toNat = 80 * 1 + p by omega, c7, e7]
  exact ⟨by omega, fun _ => k25, fun z => absurd rfl z⟩
