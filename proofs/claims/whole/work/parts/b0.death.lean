/-! THE MODEL: a death -/
theorem R_all_fr {M M' : e_M} {V : Nat → v_D} {S : w_S} {a : Int} (h : R_all M V S a) (f : m_fr M M') : R_all M' V S a := by
  obtain ⟨u1, u2⟩ := m_fr_n h.1 f
  exact ⟨u1, j_keep_cm h.2.1 (m_fr_keep f), by rw [u2]; exact h.2.2.1, h.2.2.2⟩
/-- which things are gone through: the CHARGES, then sort after sort from 4 on -/
def p_srt (z : Nat → Int) : Nat → Nat → Bool
  | 0 => p_upto 2 (z 2)
  | k + 1 => p_and (p_srt z k) (p_upto (4 + k) (z (4 + k)))
theorem p_srt_lt {z : Nat → Int} (hz : ∀ s, s < 7 → 0 ≤ z s ∧ z s ≤ 80) : ∀ {k t : Nat}, k ≤ 3 → p_srt z k t = true → t < 80 * (4 + k)
  | 0, t, _, h => by
    have h2 : 80 * 2 ≤ t ∧ (t : Int) < ((80 * 2 : Nat) : Int) + z 2 := by
      have := of_decide_eq_true (show decide _ = true from h)
      omega
    have := hz 2 (by omega)
    omega
  | k + 1, t, hk, h => by
    rcases (Bool.or_eq_true _ _).mp (show (p_srt z k t || p_upto (4 + k) (z (4 + k)) t) = true from h) with h | h
    · have := p_srt_lt hz (show k ≤ 3 by omega) h
      omega
    · have h2 := of_decide_eq_true (show decide _ = true from h)
      have := hz (4 + k) (by omega)
      omega
theorem p_and_S {q : Nat → Bool} {s t : Nat} {i : Int} (h : 0 ≤ i) : p_and q (p_upto s (i + 1)) t = (p_and q (p_upto s i) t || decide (t = 80 * s + i.toNat)) := by
  unfold p_and
  rw [p_upto_S h, Bool.or_assoc]
theorem p_srt_T {z : Nat → Int} (hz : ∀ s, s < 7 → 0 ≤ z s ∧ z s ≤ 80) {k : Nat} {i : Int} (hk : k ≤ 2) (h : 0 ≤ i) : p_and (p_srt z k) (p_upto (4 + k) i) (80 * (4 + k) + i.toNat) = false := by
  unfold p_and
  rw [p_upto_T h, Bool.or_false]
  cases e : p_srt z k (80 * (4 + k) + i.toNat) with
  | false => rfl
  | true => have := p_srt_lt hz (show k ≤ 3 by omega) e; omega
theorem p_srt_at {z : Nat → Int} (hz : ∀ s, s < 7 → 0 ≤ z s ∧ z s ≤ 80) {s i : Nat} (hs : s < 7) (hi : i < 80) : p_srt z 3 (80 * s + i) = decide ((s = 2 ∨ (4 ≤ s ∧ s ≤ 6)) ∧ (i : Int) < z s) := by
  show (((p_upto 2 (z 2) (80 * s + i) || p_upto 4 (z 4) (80 * s + i)) || p_upto 5 (z 5) (80 * s + i)) || p_upto 6 (z 6) (80 * s + i)) = _
  have up : ∀ r, r < 7 → p_upto r (z r) (80 * s + i) = decide (s = r ∧ (i : Int) < z s) := fun r hr => by
    have := hz r hr
    unfold p_upto
    by_cases c : s = r ∧ (i : Int) < z s
    · rw [decide_eq_true c]
      obtain ⟨c1, c2⟩ := c
      subst c1
      exact decide_eq_true (by omega)
    · rw [decide_eq_false c]
      refine decide_eq_false (fun h2 => c ?_)
      have e : s = r := by omega
      subst e
      exact ⟨rfl, by omega⟩
  rw [up 2 (by omega), up 4 (by omega), up 5 (by omega), up 6 (by omega)]
  by_cases c : (s = 2 ∨ (4 ≤ s ∧ s ≤ 6)) ∧ (i : Int) < z s
  · rw [decide_eq_true c]
    obtain ⟨c1, c2⟩ := c
    have : s = 2 ∨ s = 4 ∨ s = 5 ∨ s = 6 := by omega
    rcases this with e | e | e | e <;> subst e <;> simp [c2]
  · rw [decide_eq_false c]
    have n : ∀ r, (r = 2 ∨ (4 ≤ r ∧ r ≤ 6)) → decide (s = r ∧ (i : Int) < z s) = false := fun r hr => decide_eq_false (fun h2 => c ⟨by rw [h2.1]; exact hr, h2.2⟩)
    rw [n 2 (by omega), n 4 (by omega), n 5 (by omega), n 6 (by omega)]
    rfl
/-- what a death does to one of the model's things -/
def g_die (p heir : Int) (t : Nat) (x : w_T) : w_T := if t < 240 then (if x.1 5 = p ∧ x.1 2 = 0 then (s_fu x.1 5 heir, x.2) else x) else (if x.1 5 = p then (s_fu x.1 2 1, x.2) else x)
theorem g_die_1 {p heir : Int} {t : Nat} {x : w_T} : (g_die p heir t x).1 1 = x.1 1 ∧ (g_die p heir t x).1 0 = x.1 0 := by
  unfold g_die
  split <;> split <;> exact ⟨rfl, rfl⟩
theorem t_ends_1 {p heir : Int} {s : Nat} {x : w_T} : (t_ends p heir s x).1 1 = x.1 1 ∧ (t_ends p heir s x).1 0 = x.1 0 ∧ (t_ends p heir s x).1 11 = x.1 11 := by
  unfold t_ends
  split
  · split <;> exact ⟨rfl, rfl, rfl⟩
  · exact ⟨rfl, rfl, rfl⟩
theorem t_thr_5 {t : w_T} {v day : Int} {r : List Int × List Int} : t_thr (s_fu t.1 5 v, r) day = t_thr t day := rfl
/-- what the CHARGES and rights of a dead one come to, on both sides -/
theorem R_die {V : Nat → v_D} {S : w_S} {N : n_S} {a p heir : Int} (hR : R_S V S N a) (hz : R_z S) (hp : 0 ≤ p) (h3 : ∀ i : Nat, (i : Int) < S.1 3 → (w_t S 3 i).1 5 = -1) : R_S V (w_map S 2 6 (t_ends p heir)) (n_pm N (p_srt S.1 3) (g_die p heir)) a := by
  have z80 : ∀ s, s < 7 → 0 ≤ S.1 s ∧ S.1 s ≤ 80 := fun s hs => by
    have := hz s (by omega)
    have : w_mx s ≤ 80 := by unfold w_mx; (repeat' split) <;> omega
    omega
  have nt : ∀ s i : Nat, s < 7 → i < 80 → (n_pm N (p_srt S.1 3) (g_die p heir)).2.1 (80 * s + i) = if (s = 2 ∨ (4 ≤ s ∧ s ≤ 6)) ∧ (i : Int) < S.1 s then g_die p heir (80 * s + i) (N.2.1 (80 * s + i)) else N.2.1 (80 * s + i) := fun s i hs hi => by
    rw [n_pm_at, p_srt_at z80 hs hi]
    by_cases c : (s = 2 ∨ (4 ≤ s ∧ s ≤ 6)) ∧ (i : Int) < S.1 s
    · rw [decide_eq_true c, if_pos rfl, if_pos c]
    · rw [decide_eq_false c, if_neg (by decide), if_neg c]
  refine R_things hR hz rfl rfl rfl rfl (fun i hi => ?_) rfl (fun s i s1 s7 hi => ⟨?_, ?_⟩) (fun i hi => ?_) (fun i hi => ?_) (fun s i s2 s6 hi => ?_) (fun k hk => ?_)
  · have := nt 0 i (by omega) (R_mx hz (by omega) hi)
    rw [if_neg (by omega), show 80 * 0 + i = i by omega] at this
    exact this
  · rw [w_map_at hz ⟨s1, by omega⟩ hi]
    split
    · exact t_ends_1.1
    · rfl
  · rw [nt s i s7 (R_mx hz s7 hi)]
    split
    · exact g_die_1.1
    · rfl
  · rw [w_map_at hz (by omega) hi, if_pos (by omega)]
    exact t_ends_1.2.2
  · rw [w_map_at hz (by omega) hi, if_neg (by omega), nt 1 i (by omega) (R_mx hz (by omega) hi), if_neg (by omega)]
    exact hR.2.2.2.1 i hi
  · obtain ⟨r1, r2, r3⟩ := hR.2.2.2.2.1 s i s2 s6 hi
    rw [w_map_at hz (by omega) hi, if_pos (by omega), nt s i (by omega) (R_mx hz (by omega) hi)]
    generalize hx : w_t S s i = x at *
    generalize hy : N.2.1 (80 * s + i) = y at *
    by_cases s3 : s = 3
    · subst s3
      rw [if_neg (by omega)]
      have e5 : x.1 5 = -1 := by rw [← hx]; exact h3 i hi
      unfold t_ends
      rw [if_neg (by omega)]
      exact ⟨r1, r2, r3⟩
    · rw [if_pos (by omega)]
      refine ⟨by rw [g_die_1.2, t_ends_1.2.1]; exact r1, ?_⟩
      by_cases tt : t_thr x S.2.2.2 = true
      · have rb := r3 tt
        have e5 := rb.1 s3
        have y2 : y.1 2 = 0 := (t_thr_iff.mp (r2.trans tt)).1
        unfold g_die t_ends
        rw [e5]
        by_cases c : x.1 5 = p
        · by_cases c2 : s = 2
          · subst c2
            have hi80 := R_mx hz (show 2 < 7 by omega) hi
            rw [if_pos (show 80 * 2 + i < 240 by omega), if_pos ⟨c, y2⟩, if_pos c, if_pos rfl]
            refine ⟨by rw [t_thr_5, t_thr_5]; exact r2, fun _ => ?_⟩
            refine ⟨fun _ => ?_, fun _ => ?_, fun z => by omega, fun z => ?_, fun z => by omega, fun z => by omega, fun z => ?_⟩
            · show s_fu y.1 5 heir 5 = s_fu x.1 5 heir 5
              rw [s_fu_eq, s_fu_eq]
            · show s_fu y.1 5 heir 6 = s_fu x.1 5 heir 6
              rw [s_fu_ne (by omega), s_fu_ne (by omega)]; exact rb.2.1 (Or.inl rfl)
            · exact rb.2.2.2.1 z
            · show s_fu y.1 5 heir 3 = _ ∧ s_fu x.1 5 heir 3 = _
              rw [s_fu_ne (by omega), s_fu_ne (by omega)]; exact rb.2.2.2.2.2.2 z
          · rw [if_neg (show ¬ 80 * s + i < 240 by omega), if_pos c, if_pos c, if_neg c2]
            refine ⟨(t_thr_gone rfl).trans (t_thr_gone rfl).symm, fun z => ?_⟩
            rw [t_thr_gone rfl] at z; cases z
        · have this : (if 80 * s + i < 240 then (if x.1 5 = p ∧ y.1 2 = 0 then (s_fu y.1 5 heir, y.2) else y) else (if x.1 5 = p then (s_fu y.1 2 1, y.2) else y)) = y := by
            by_cases c2 : 80 * s + i < 240
            · rw [if_pos c2, if_neg (fun z => c z.1)]
            · rw [if_neg c2, if_neg c]
          rw [this, if_neg c]
          exact ⟨r2, r3⟩
      · have tf : t_thr x S.2.2.2 = false := by cases hh : t_thr x S.2.2.2 with
          | false => rfl
          | true => exact absurd hh tt
        have xt : t_thr (t_ends p heir s x) S.2.2.2 = false := by
          unfold t_ends; split
          · split
            · rw [t_thr_5]; exact tf
            · exact t_thr_gone rfl
          · exact tf
        have yt : t_thr (g_die p heir (80 * s + i) y) S.2.2.2 = false := by
          unfold g_die; split
          · split
            · rw [t_thr_5, r2]; exact tf
            · rw [r2]; exact tf
          · split
            · exact t_thr_gone rfl
            · rw [r2]; exact tf
        refine ⟨yt.trans xt.symm, fun z => ?_⟩
        rw [xt] at z; cases z
  · rw [w_map_at hz (by omega) hk, if_neg (by omega)]
/-- the end of a death: the CHARGES, the rights, the dead one -/
theorem m_dieK {M : e_M} {V : Nat → v_D} {S : w_S} {a p heir : Int} {Q : Int → e_M → Prop} (hn : nn_ok M) (hR : R_S V S (n_of M) a) (hz : R_z S) (hp : 0 ≤ p ∧ p < S.1 1) (h3 : ∀ i : Nat, (i : Int) < S.1 3 → (w_t S 3 i).1 5 = -1) (hq : ∀ M', nn_ok M' → R_S V (w_put (w_map S 2 6 (t_ends p heir)) (w_F 1 + p.toNat) 2 1) (n_of M') a → j_keep M M' → Q 0 M') : ∃ j, WX12_death_224 Q j p heir 0 M := by
  have z80 : ∀ s, s < 7 → 0 ≤ S.1 s ∧ S.1 s ≤ 80 := fun s hs => by
    have := hz s (by omega)
    have : w_mx s ≤ 80 := by unfold w_mx; (repeat' split) <;> omega
    omega
  have sz : ∀ (N : e_M) (q : Nat → Bool) (s : Nat), n_of N = n_pm (n_of M) q (g_die p heir) → s < 7 → N 4483 s = S.1 s := fun N q s e hs => by
    have : (n_of N).1 s = (n_of M).1 s := by rw [e]; rfl
    rw [n_z hs, n_z hs] at this
    rw [this]; exact R_many hR hs
  -- the rights
  have k286 : ∀ N, nn_ok N → n_of N = n_pm (n_of M) (p_srt S.1 0) (g_die p heir) → j_keep M N → ∃ j, WX12_death_286 Q j p 4 N := by
    intro N b1 b2 b3
    refine s_up (σ := e_M) (P := fun dd i N => WX12_death_286 Q dd p i N) (n := 7) (i0 := 4) (s := N) (fun i N => ∃ k : Nat, i = ((4 + k : Nat) : Int) ∧ k ≤ 3 ∧ nn_ok N ∧ n_of N = n_pm (n_of M) (p_srt S.1 k) (g_die p heir) ∧ j_keep M N) (by omega) ⟨0, rfl, by omega, b1, b2, b3⟩ ?_ ?_
    · intro d2 N ⟨k, e, hk, b1, b2, b3⟩
      have k3 : k = 3 := by omega
      subst k3
      obtain ⟨q, eq⟩ : ∃ q : Nat, p = q := ⟨p.toNat, by omega⟩
      subst eq
      have tq : ((q : Nat) : Int).toNat = q := by omega
      rw [tq] at hq
      have q80 := R_mx hz (show 1 < 7 by omega) hp.2
      unfold WX12_death_286 VX12_death_286
      refine ⟨fun _ => m_idt (t := 80 * 1 + q) (by omega) (by omega) (by omega) ⟨⟨by omega, Or.inr rfl⟩, fun M2 f2 => ?_⟩, fun z => by omega⟩
      rw [show (((80 * 1 + q : Nat)) : Int).toNat = 80 * 1 + q by omega] at f2
      obtain ⟨u1, u2⟩ := N_put2 (M := N) (t := 80 * 1 + q) (v := 1) b1 (by omega)
      rw [← f2] at u1 u2
      refine hq M2 u1 ?_ (j_keep_trans b3 (by rw [f2]; exact j_keep_cell (by omega)))
      rw [u2, b2]
      exact R_pgone (R_die hR hz hp.1 h3) hz hp.2
    · intro d2 i N k1 k2 ⟨k, e, hk, b1, b2, b3⟩ ih
      subst e
      have k3 : k ≤ 2 := by omega
      have ts : (((4 + k : Nat)) : Int).toNat = 4 + k := by omega
      unfold WX12_death_286 VX12_death_286
      refine ⟨fun z => by omega, fun _ => ?_⟩
      show ∃ j, WX12_death_296 (WX12_death_286 Q d2) Q j p (((4 + k : Nat)) : Int) 0 N
      refine s_up (σ := e_M) (P := fun dd i N => WX12_death_296 (WX12_death_286 Q d2) Q dd p (((4 + k : Nat)) : Int) i N) (n := S.1 (4 + k)) (i0 := 0) (s := N) (fun i N => nn_ok N ∧ n_of N = n_pm (n_of M) (p_and (p_srt S.1 k) (p_upto (4 + k) i)) (g_die p heir) ∧ j_keep M N) (z80 (4 + k) (by omega)).1 ⟨b1, ?_, b3⟩ ?_ ?_
      · rw [b2]
        congr 1
        funext t
        unfold p_and
        rw [p_upto_0, Bool.or_false]
      · intro d3 N ⟨c1, c2, c3⟩
        unfold WX12_death_296 VX12_death_296
        rw [ts, sz N _ (4 + k) c2 (by omega)]
        refine ⟨by omega, fun _ => ?_, fun z => by omega⟩
        rw [s_w (by omega) (by omega)]
        exact ih N ⟨k + 1, by omega, by omega, c1, c2, c3⟩
      · intro d3 i N i1 i2 ⟨c1, c2, c3⟩ ih2
        have hz4 := z80 (4 + k) (by omega)
        have tt : (((80 * (4 + k) + i.toNat : Nat)) : Int).toNat = 80 * (4 + k) + i.toNat := by omega
        obtain ⟨-, -, -, -, -, c5, -⟩ := n_c (M := N) (t := 80 * (4 + k) + i.toNat) (by omega)
        have eT : (n_of N).2.1 (80 * (4 + k) + i.toNat) = (n_of M).2.1 (80 * (4 + k) + i.toNat) := by
          rw [c2, n_pm_at, p_srt_T z80 k3 i1, if_neg (by decide)]
        rw [eT] at c5
        have k337 : ∀ N', nn_ok N' → n_of N' = n_pm (n_of M) (p_and (p_srt S.1 k) (p_upto (4 + k) (i + 1))) (g_die p heir) → j_keep M N' → WX12_death_337 (WX12_death_286 Q d2) (WX12_death_296 (WX12_death_286 Q d2) Q d3) Q p (((4 + k : Nat)) : Int) i N' := fun N' v1 v2 v3 => by
          unfold WX12_death_337 VX12_death_337
          rw [s_w (by omega) (by omega)]
          exact ih2 N' ⟨v1, v2, v3⟩
        unfold WX12_death_296 VX12_death_296
        rw [ts, sz N _ (4 + k) c2 (by omega)]
        refine ⟨by omega, fun z => by omega, fun _ => m_idt (t := 80 * (4 + k) + i.toNat) (by omega) (by omega) (by omega) ?_⟩
        rw [tt, c5]
        refine ⟨by omega, fun ne => k337 N c1 ?_ c3, fun e => m_idt (t := 80 * (4 + k) + i.toNat) (by omega) (by omega) (by omega) ⟨⟨by omega, Or.inr rfl⟩, fun M5 f5 => ?_⟩⟩
        · rw [c2]
          exact (n_pm_skip (p_srt_T z80 k3 i1) (fun t => p_and_S i1) (by unfold g_die; rw [if_neg (by omega), if_neg ne])).symm
        · rw [tt] at f5
          obtain ⟨u1, u2⟩ := N_put2 (M := N) (t := 80 * (4 + k) + i.toNat) (v := 1) c1 (by omega)
          rw [← f5] at u1 u2
          refine k337 M5 u1 ?_ (j_keep_trans c3 (by rw [f5]; exact j_keep_cell (by omega)))
          rw [u2, n_pm_step (T := 80 * (4 + k) + i.toNat) (p := p_and (p_srt S.1 k) (p_upto (4 + k) i)) (p_srt_T z80 k3 i1) (fun t => p_and_S i1), ← c2, eT]
          unfold n_put g_die
          rw [eT, if_neg (by omega), if_pos e]
  -- the CHARGES
  have hz2 := z80 2 (by omega)
  refine s_up (σ := e_M) (P := fun dd i N => WX12_death_224 Q dd p heir i N) (n := S.1 2) (i0 := 0) (s := M) (fun i N => nn_ok N ∧ n_of N = n_pm (n_of M) (p_upto 2 i) (g_die p heir) ∧ j_keep M N) hz2.1 ⟨hn, (n_pm_0 (fun t => p_upto_0)).symm, j_keep_refl⟩ ?_ ?_
  · intro d2 N ⟨b1, b2, b3⟩
    unfold WX12_death_224 VX12_death_224
    rw [show (2 : Int).toNat = 2 from rfl, sz N _ 2 b2 (by omega)]
    exact ⟨by omega, fun _ => k286 N b1 b2 b3, fun z => by omega⟩
  · intro d2 i N i1 i2 ⟨b1, b2, b3⟩ ih
    have tt : (((80 * 2 + i.toNat : Nat)) : Int).toNat = 80 * 2 + i.toNat := by omega
    obtain ⟨-, -, c2, -, -, c5, -⟩ := n_c (M := N) (t := 80 * 2 + i.toNat) (by omega)
    have eT : (n_of N).2.1 (80 * 2 + i.toNat) = (n_of M).2.1 (80 * 2 + i.toNat) := by
      rw [b2, n_pm_at, p_upto_T i1, if_neg (by decide)]
    rw [eT] at c5 c2
    have k277 : ∀ N', nn_ok N' → n_of N' = n_pm (n_of M) (p_upto 2 (i + 1)) (g_die p heir) → j_keep M N' → WX12_death_277 (WX12_death_224 Q d2) Q p heir i N' := fun N' v1 v2 v3 => by
      unfold WX12_death_277 VX12_death_277
      rw [s_w (by omega) (by omega)]
      exact ih N' ⟨v1, v2, v3⟩
    have skip : ¬ (((n_of M).2.1 (80 * 2 + i.toNat)).1 5 = p ∧ ((n_of M).2.1 (80 * 2 + i.toNat)).1 2 = 0) → WX12_death_277 (WX12_death_224 Q d2) Q p heir i N := fun ne => k277 N b1 (by
      rw [b2]
      exact (n_pm_skip (p_upto_T i1) (fun t => p_upto_S i1) (by unfold g_die; rw [if_pos (by omega), if_neg ne])).symm) b3
    unfold WX12_death_224 VX12_death_224
    rw [show (2 : Int).toNat = 2 from rfl, sz N _ 2 b2 (by omega)]
    refine ⟨by omega, fun z => by omega, fun _ => m_idt (t := 80 * 2 + i.toNat) (by omega) (by omega) (by omega) ?_⟩
    rw [tt, c5]
    refine ⟨by omega, fun ne => skip (fun z => ne z.1), fun e => m_idt (t := 80 * 2 + i.toNat) (by omega) (by omega) (by omega) ?_⟩
    rw [tt, c2]
    refine ⟨by omega, fun ne => skip (fun z => ne z.2), fun e2 => m_idt (t := 80 * 2 + i.toNat) (by omega) (by omega) (by omega) ⟨by omega, fun M5 f5 => ?_⟩⟩
    rw [tt] at f5
    obtain ⟨u1, u2⟩ := N_put5 (M := N) (t := 80 * 2 + i.toNat) (v := heir) b1 (by omega)
    rw [← f5] at u1 u2
    refine k277 M5 u1 ?_ (j_keep_trans b3 (by rw [f5]; exact j_keep_cell (by omega)))
    rw [u2, n_pm_step (T := 80 * 2 + i.toNat) (p := p_upto 2 i) (p_upto_T i1) (fun t => p_upto_S i1), ← b2, eT]
    unfold n_put g_die
    rw [eT, if_pos (by omega), if_pos ⟨e, e2⟩]
theorem w_ows_self {S : w_S} {k : Nat} : w_ows S k (w_l S k).2.2.2 = S := by
  unfold w_ows w_setL
  refine Prod.ext rfl (Prod.ext (funext fun j => ?_) rfl)
  show s_fu S.2.1 k _ j = S.2.1 j
  unfold s_fu
  split
  · next c => rw [c]; rfl
  · rfl
/-- one LOT more on the way through a death -/
theorem w_hs_inh {S : w_S} {dead : Int} {r : Nat → Int} {ps : List (Int × Int)} {k : Nat} : w_ows (w_hs S dead r ps k) k (l_inh (w_l S k) dead r ps) = w_hs S dead r ps (k + 1) := by
  unfold l_inh
  cases e : l_heir (w_l S k) dead r ps with
  | some o => exact (w_hs_some e).symm
  | none =>
    rw [w_hs_none e]
    have : w_l (w_hs S dead r ps k) k = w_l S k := w_hs_at
    show w_ows (w_hs S dead r ps k) k (w_l S k).2.2.2 = _
    rw [← this]
    exact w_ows_self
theorem m_dieI {M : e_M} {V : Nat → v_D} {S : w_S} {a : Int} {x : Nat} {dead : Int} {ps : List (Int × Int)} {r : Nat → Int} {Q : Int → e_M → Prop} (h : R_all M V S a) (hx : x < 152) (he : j_pts M x = ps) (hn : 0 ≤ M 4470 x ∧ M 4470 x ≤ 6) (hf : 0 < M 4470 x → M 4471 x = 1) (hr : ∀ k : Nat, (k : Int) < M 4470 x → M 4520 (1 + k) = r (1 + k)) (hp : d_pok ps) (hlw : ∀ l : Nat, (l : Int) < S.1 0 → ∀ q ∈ (w_l S l).2.2.2, s_lw q.2) (hnd : ∀ i j : Nat, i < j → (j : Int) < M 4470 x → r (1 + i) ≠ r (1 + j)) (h8 : ∀ l : Nat, (l : Int) < S.1 0 → (w_l S l).1 1 = 0 → (l_inh (w_l S l) dead r ps).length ≤ 8) (hdead : 0 ≤ dead ∧ dead < S.1 1) (h3 : ∀ i : Nat, (i : Int) < S.1 3 → (w_t S 3 i).1 5 = -1)
    (hq : j_q M V a Q (0, w_put (w_map (w_hs S dead r ps (S.1 0).toNat) 2 6 (t_ends dead (if 0 < M 4470 x then r 1 else 0))) (w_F 1 + dead.toNat) 2 1)) : ∃ j, WX12_death_151 Q j x dead 0 M := by
  obtain ⟨hn', hc, hR, hz, hg, hd⟩ := id h
  have tx : ((x : Nat) : Int).toNat = x := by omega
  have hz0 := hz 0 (by omega)
  have m0 : w_mx 0 = 80 := rfl
  refine s_up (σ := e_M) (P := fun dd i N => WX12_death_151 Q dd x dead i N) (n := S.1 0) (i0 := 0) (s := M) (fun i N => nn_ok N ∧ R_S V (w_hs S dead r ps i.toNat) (n_of N) a ∧ j_keep M N) hz0.1 ⟨hn', by show R_S V (w_hs S dead r ps 0) _ a; rw [w_hs_0]; exact hR, j_keep_refl⟩ ?_ ?_
  · intro d2 N ⟨b1, b2, b3⟩
    have k : ∀ c, (4463 ≤ c ∧ c < 4480) ∨ c = 4520 → N c = M c := fun c hc => b3.1 c (by omega)
    have fin : ∀ heir, heir = (if 0 < M 4470 x then r 1 else 0) → WX12_death_219 Q dead heir N := fun heir eh => by
      unfold WX12_death_219 VX12_death_219
      refine m_dieK b1 b2 hz hdead h3 (fun M' u1 u2 u3 => hq M' u1 ?_ (j_keep_trans b3 u3))
      rw [← eh]; exact u2
    unfold WX12_death_151 VX12_death_151
    rw [show (0 : Int).toNat = 0 from rfl, R_many b2 (s := 0) (by omega), tx, k 4470 (by omega), k 4471 (by omega), k 4520 (by omega)]
    show (0 ≤ (0 : Int) ∧ (0 : Int) < 7) ∧ (S.1 0 ≤ S.1 0 → _) ∧ (S.1 0 < S.1 0 → _)
    refine ⟨by omega, fun _ => ⟨by omega, fun ne => ?_, fun e => ?_⟩, fun z => by omega⟩
    · have e1 := hf (by omega)
      have e2 := hr 0 (by omega)
      rw [e1]
      exact ⟨by omega, by omega, fin _ (by rw [if_pos (by omega)]; exact e2)⟩
    · exact fin 0 (by rw [if_neg (by omega)])
  · intro d2 i N i1 i2 ⟨b1, b2, b3⟩ ih
    obtain ⟨l, el⟩ : ∃ l : Nat, i = l := ⟨i.toNat, by omega⟩
    subst el
    have tl : ((l : Nat) : Int).toNat = l := by omega
    rw [tl] at b2
    have l80 : l < 80 := by omega
    have kk : ∀ c, (4463 ≤ c ∧ c < 4480) ∨ c = 4520 → N c = M c := fun c hc => b3.1 c (by omega)
    have wl : w_l (w_hs S dead r ps l) l = w_l S l := w_hs_at
    obtain ⟨-, -, c2, -⟩ := n_c (M := N) (t := l) (by omega)
    have e2 : ((n_of N).2.1 l).1 2 = (w_l S l).1 1 := by
      have := (b2.2.2.1 l i2).1.2.1
      rw [show (w_hs S dead r ps l).2.1 l = S.2.1 l from w_hs_at] at this
      exact this
    have eo : j_own N l = (w_l S l).2.2.2 := by
      have := (R_lo (S := w_hs S dead r ps l) b2 hz (l := l) i2).2.2
      rw [wl] at this; exact this
    have k189 : ∀ N', nn_ok N' → R_S V (w_hs S dead r ps (l + 1)) (n_of N') a → j_keep M N' → WX12_death_189 (WX12_death_151 Q d2) Q x dead l N' := fun N' v1 v2 v3 => by
      unfold WX12_death_189 VX12_death_189
      rw [s_w (by omega) (by omega)]
      exact ih N' ⟨v1, by rw [show ((l : Int) + 1).toNat = l + 1 by omega]; exact v2, v3⟩
    unfold WX12_death_151 VX12_death_151
    rw [show (0 : Int).toNat = 0 from rfl, R_many b2 (s := 0) (by omega), tl, c2, e2]
    show (0 ≤ (0 : Int) ∧ (0 : Int) < 7) ∧ (S.1 0 ≤ (l : Int) → _) ∧ ((l : Int) < S.1 0 → _)
    refine ⟨by omega, fun z => by omega, fun _ => ⟨by omega, fun e => ?_, fun ne => ?_⟩⟩
    · refine m_inherits (L := w_l S l) (ps := ps) (r := r) b1 l80 eo (hg.1 l i2).2.2.2 e hx (by unfold j_pts at *; rw [kk 4470 (by omega), kk 4472 (by omega), kk 4473 (by omega)]; exact he) (by rw [kk 4470 (by omega)]; exact hn) (by rw [kk 4470 (by omega), kk 4471 (by omega)]; exact hf) (fun k hk => by rw [kk 4470 (by omega)] at hk; rw [kk 4520 (by omega)]; exact hr k hk) hp (hlw l i2) (fun i j hij hj => hnd i j hij (by rw [kk 4470 (by omega)] at hj; exact hj)) (fun M1 o1 k1 f1 => ?_)
      obtain ⟨u1, u2⟩ := m_fr_n b1 f1
      have ml := m_own_len k1
      have l8 := h8 l i2 e
      rw [← o1] at l8
      refine m_keeps u1 l80 k1 (by omega) (fun M2 p1 p2 p3 => k189 M2 p1 ?_ (j_keep_trans b3 (j_keep_trans (m_fr_keep f1) (j_keep_of (fun b hb => p3 b (by omega) (by omega) (by omega) (by omega))))))
      rw [p2, u2, o1, ← w_hs_inh]
      exact R_ows (S := w_hs S dead r ps l) b2 hz i2
    · refine k189 N b1 ?_ b3
      have hno : l_heir (w_l S l) dead r ps = none := by
        unfold l_heir
        exact if_neg (fun z => ne z.1)
      rw [w_hs_none hno]; exact b2
theorem m_death {M : e_M} {V : Nat → v_D} {S : w_S} {a : Int} {d x : Nat} {r : Nat → Int} {Q : Int → e_M → Prop} (h : R_all M V S a) (hx : x < 152) (i0 : M 4520 0 = r 0) (h0 : 0 ≤ r 0 ∧ r 0 < S.1 1) (n0 : (w_t S 1 (r 0).toNat).1 7 = 0) (he : j_pts M x = (V d).2.2.2.1) (hn : M 4470 x = (V d).1 15) (hn6 : 0 ≤ (V d).1 15 ∧ (V d).1 15 ≤ 6) (h7 : 0 < (V d).1 15 → (V d).1 7 = (V d).1 15 + 1) (hf : 0 < (V d).1 15 → M 4471 x = 1) (hr : ∀ k : Nat, (k : Int) < (V d).1 15 → M 4520 (1 + k) = r (1 + k)) (hp : d_pok (V d).2.2.2.1) (hlw : ∀ l : Nat, (l : Int) < S.1 0 → ∀ q ∈ (w_l S l).2.2.2, s_lw q.2) (h3 : ∀ i : Nat, (i : Int) < S.1 3 → (w_t S 3 i).1 5 = -1) (hq : j_q M V a Q (X_die V S r d)) : WX12_death x M Q := by
  obtain ⟨hn', hc, hR, hz, hg, hd⟩ := id h
  have tx : ((x : Nat) : Int).toNat = x := by omega
  have hz0 := hz 0 (by omega)
  have m0 : w_mx 0 = 80 := rfl
  obtain ⟨p, e0⟩ : ∃ p : Nat, r 0 = p := ⟨(r 0).toNat, by omega⟩
  have ep : (r 0).toNat = p := by omega
  have hpi : (p : Int) < S.1 1 := by omega
  have p80 := R_mx hz (show 1 < 7 by omega) hpi
  rw [ep] at n0
  obtain ⟨-, -, -, -, -, -, -, c7⟩ := n_c (M := M) (t := 80 * 1 + p) (by omega)
  generalize hps : (V d).2.2.2.1 = ps at *
  generalize hnn : (V d).1 15 = n at *
  have q6a : 0 < n ∧ (a_mixed r 1 ((V d).1 7) (r 0) ∨ d_wh ps 0 1 = false) → j_q M V a Q (6, S) := fun g => j_qx (c_if_pos (by rw [hnn, hps]; exact g)) hq
  have q6b : ¬ (0 < n ∧ (a_mixed r 1 ((V d).1 7) (r 0) ∨ d_wh ps 0 1 = false)) → d_fine S (r 0) r ps → j_q M V a Q (6, S) := fun g1 g2 => j_qx ((c_if_neg (by rw [hnn, hps]; exact g1)).trans (c_if_pos (by rw [hps]; exact g2))) hq
  have q7 : ¬ (0 < n ∧ (a_mixed r 1 ((V d).1 7) (r 0) ∨ d_wh ps 0 1 = false)) → ¬ d_fine S (r 0) r ps → d_full S (r 0) r ps → j_q M V a Q (7, S) := fun g1 g2 g3 => j_qx ((c_if_neg (by rw [hnn, hps]; exact g1)).trans ((c_if_neg (by rw [hps]; exact g2)).trans (c_if_pos (by rw [hps]; exact g3)))) hq
  have q0 : ¬ (0 < n ∧ (a_mixed r 1 ((V d).1 7) (r 0) ∨ d_wh ps 0 1 = false)) → ¬ d_fine S (r 0) r ps → ¬ d_full S (r 0) r ps → j_q M V a Q (0, w_put (w_map (w_hs S (r 0) r ps (S.1 0).toNat) 2 6 (t_ends (r 0) (if 0 < n then r 1 else 0))) (w_F 1 + (r 0).toNat) 2 1) := fun g1 g2 g3 => j_qx ((c_if_neg (by rw [hnn, hps]; exact g1)).trans ((c_if_neg (by rw [hps]; exact g2)).trans ((c_if_neg (by rw [hps]; exact g3)).trans (by rw [hnn, hps])))) hq
  have hl8 : ∀ l : Nat, (l : Int) < S.1 0 → (w_l S l).2.2.2.length ≤ 8 := fun l hl => by
    have l80 := R_mx hz (show 0 < 7 by omega) hl
    have := j_own_len (hn'.2.2.1 l l80).2.2
    rw [(R_lo hR hz hl).2.2] at this
    have := (hn'.2.2.1 l l80).2.2.2
    omega
  -- what the first loop finds is what the class finds
  have hG : ∀ l : Nat, (l : Int) < S.1 0 → (w_l S l).1 1 = 0 → (∃ q ∈ l_inh (w_l S l) (r 0) r ps, 1000000 < q.2.2) → d_fine S (r 0) r ps := fun l hl g ⟨q, q1, q2⟩ => by
    unfold l_inh at q1
    cases e : l_heir (w_l S l) (r 0) r ps with
    | none =>
      rw [e] at q1
      have := (hg.1 l hl).2.2.2 q q1
      omega
    | some o => rw [e] at q1; exact ⟨l, hl, o, e, q, q1, q2⟩
  have hF : ∀ l : Nat, (l : Int) < S.1 0 → (w_l S l).1 1 = 0 → 8 < (l_inh (w_l S l) (r 0) r ps).length → d_full S (r 0) r ps := fun l hl g hlen => by
    unfold l_inh at hlen
    cases e : l_heir (w_l S l) (r 0) r ps with
    | none =>
      rw [e] at hlen
      have := hl8 l hl
      dsimp only at hlen
      omega
    | some o => rw [e] at hlen; exact ⟨l, hl, o, e, hlen⟩
  have hH : ∀ l : Nat, ∀ o, l_heir (w_l S l) (r 0) r ps = some o → (w_l S l).1 1 = 0 ∧ l_inh (w_l S l) (r 0) r ps = o := fun l o e => by
    refine ⟨?_, by unfold l_inh; rw [e]⟩
    unfold l_heir at e
    by_cases c : (w_l S l).1 1 = 0 ∧ 0 ≤ o_fd (w_l S l).2.2.2 (r 0)
    · exact c.1
    · rw [if_neg c] at e; cases e
  have main : ¬ (0 < n ∧ (a_mixed r 1 ((V d).1 7) (r 0) ∨ d_wh ps 0 1 = false)) → ∀ M1, m_fr M M1 → WX12_death_43 Q x (r 0) M1 := by
    intro nb M1 f1
    have h1 := R_all_fr h f1
    have hnd : ∀ i j : Nat, i < j → (j : Int) < n → r (1 + i) ≠ r (1 + j) := fun i j hij hj e => nb ⟨by omega, Or.inl ⟨1 + j, by omega, by have := h7 (by omega); omega, Or.inr ⟨1 + i, by omega, by omega, e.symm⟩⟩⟩
    replace q6b := q6b nb
    replace q7 := q7 nb
    replace q0 := q0 nb
    have jq : ∀ {X : Int × w_S} {N : e_M}, m_fr M N → j_q M V a Q X → j_q N V a Q X := fun f hj M' a1 a2 a3 => hj M' a1 a2 (j_keep_trans (m_fr_keep f) a3)
    have cells : ∀ N, m_fr M N → ∀ c, (4463 ≤ c ∧ c ≤ 4516) ∨ c = 4520 → N c = M c := fun N f c hc => f.1 c (by omega) (by omega) (by omega) (by omega)
    unfold WX12_death_43 VX12_death_43
    show ∃ j, WX12_death_51 Q j x (r 0) 0 0 0 M1
    refine s_up (σ := Int × Int × e_M) (P := fun dd i s => WX12_death_51 Q dd x (r 0) s.1 s.2.1 i s.2.2) (n := S.1 0) (i0 := 0) (s := (0, 0, M1)) (fun i s => m_fr M s.2.2 ∧ (s.1 = 0 → ∀ l : Nat, (l : Int) < i → (w_l S l).1 1 = 0 → ∀ q ∈ l_inh (w_l S l) (r 0) r ps, q.2.2 ≤ 1000000) ∧ (s.1 ≠ 0 → d_fine S (r 0) r ps) ∧ (s.2.1 = 0 → ∀ l : Nat, (l : Int) < i → (w_l S l).1 1 = 0 → (l_inh (w_l S l) (r 0) r ps).length ≤ 8) ∧ (s.2.1 ≠ 0 → d_full S (r 0) r ps)) hz0.1 ⟨f1, fun _ l hl => by omega, fun z => absurd rfl z, fun _ l hl => by omega, fun z => absurd rfl z⟩ ?_ ?_
    · intro d2 ⟨gr, mo, N⟩ ⟨f, i1, i2, i3, i4⟩
      dsimp only at f i1 i2 i3 i4 ⊢
      have hN := R_all_fr h f
      have nfine : gr = 0 → ¬ d_fine S (r 0) r ps := fun e ⟨l, hl, o, eo, q, q1, q2⟩ => by
        obtain ⟨g, ei⟩ := hH l o eo
        have := i1 e l hl g q (by rw [ei]; exact q1)
        omega
      have nfull : mo = 0 → ¬ d_full S (r 0) r ps := fun e ⟨l, hl, o, eo, q1⟩ => by
        obtain ⟨g, ei⟩ := hH l o eo
        have := i3 e l hl g
        rw [ei] at this
        omega
      have k136 : (gr ≠ 0 ∨ mo ≠ 0) → WX12_death_136 Q gr N := fun hh => by
        unfold WX12_death_136 VX12_death_136
        refine ⟨fun e => j_q_no hN (jq f (q7 (nfine e) (i4 (hh.resolve_left (fun z => z e))))), fun ne => j_q_no hN (jq f (q6b (i2 ne)))⟩
      unfold WX12_death_51 VX12_death_51
      rw [show (0 : Int).toNat = 0 from rfl, R_many hN.2.2.1 (s := 0) (by omega)]
      refine ⟨by omega, fun _ => ⟨fun ne => k136 (Or.inl ne), fun e => ⟨fun e2 => ?_, fun ne => k136 (Or.inr ne)⟩⟩, fun z => by omega⟩
      have ck := cells N f
      have fin := jq f (q0 (nfine e) (nfull e2))
      refine m_dieI (ps := ps) (r := r) hN hx (by unfold j_pts at *; rw [ck 4470 (by omega), ck 4472 (by omega), ck 4473 (by omega)]; exact he) (by rw [ck 4470 (by omega), hn]; exact hn6) (by rw [ck 4470 (by omega), ck 4471 (by omega), hn]; exact hf) (fun k hk => by rw [ck 4470 (by omega), hn] at hk; rw [ck 4520 (by omega)]; exact hr k hk) hp hlw (fun i j hij hj => hnd i j hij (by rw [ck 4470 (by omega), hn] at hj; exact hj)) (fun l hl g => i3 e2 l hl g) h0 h3 ?_
      rw [ck 4470 (by omega), hn]
      exact fin
    · intro d2 i ⟨gr, mo, N⟩ k1 k2 ⟨f, i1, i2, i3, i4⟩ ih
      dsimp only at f i1 i2 i3 i4 ih ⊢
      obtain ⟨l, el⟩ : ∃ l : Nat, i = l := ⟨i.toNat, by omega⟩
      subst el
      have tl : ((l : Nat) : Int).toNat = l := by omega
      have hN := R_all_fr h f
      have l80 : l < 80 := by omega
      have ck := cells N f
      obtain ⟨-, -, c2, -⟩ := n_c (M := N) (t := l) (by omega)
      have e2 : ((n_of N).2.1 l).1 2 = (w_l S l).1 1 := (hN.2.2.1.2.2.1 l k2).1.2.1
      have eo := (R_lo hN.2.2.1 hz k2).2.2
      have k121 : ∀ gr' mo' N', m_fr M N' → (gr' = 0 → gr = 0 ∧ ((w_l S l).1 1 = 0 → ∀ q ∈ l_inh (w_l S l) (r 0) r ps, q.2.2 ≤ 1000000)) → (gr' ≠ 0 → d_fine S (r 0) r ps) → (mo' = 0 → mo = 0 ∧ ((w_l S l).1 1 = 0 → (l_inh (w_l S l) (r 0) r ps).length ≤ 8)) → (mo' ≠ 0 → d_full S (r 0) r ps) → WX12_death_121 (WX12_death_51 Q d2) Q x (r 0) gr' mo' l N' := fun gr' mo' N' f' a1 a2 a3 a4 => by
        unfold WX12_death_121 VX12_death_121
        rw [s_w (by omega) (by omega)]
        refine ih (gr', mo', N') ⟨f', fun e l' hl' g => ?_, a2, fun e l' hl' g => ?_, a4⟩
        · by_cases c : l' = l
          · rw [c] at g ⊢; exact (a1 e).2 g
          · exact i1 (a1 e).1 l' (by omega) g
        · by_cases c : l' = l
          · rw [c] at g ⊢; exact (a3 e).2 g
          · exact i3 (a3 e).1 l' (by omega) g
      unfold WX12_death_51 VX12_death_51
      rw [show (0 : Int).toNat = 0 from rfl, R_many hN.2.2.1 (s := 0) (by omega), tl, c2, e2]
      refine ⟨by omega, fun z => by omega, fun _ => ⟨by omega, fun g => ?_, fun ne => k121 gr mo N f (fun e => ⟨e, fun z => absurd z ne⟩) i2 (fun e => ⟨e, fun z => absurd z ne⟩) i4⟩⟩
      refine m_inherits (L := w_l S l) (ps := ps) (r := r) hN.1 l80 eo (hg.1 l k2).2.2.2 g hx (by unfold j_pts at *; rw [ck 4470 (by omega), ck 4472 (by omega), ck 4473 (by omega)]; exact he) (by rw [ck 4470 (by omega), hn]; exact hn6) (by rw [ck 4470 (by omega), ck 4471 (by omega), hn]; exact hf) (fun k hk => by rw [ck 4470 (by omega), hn] at hk; rw [ck 4520 (by omega)]; exact hr k hk) hp (hlw l k2) (fun i j hij hj => hnd i j hij (by rw [ck 4470 (by omega), hn] at hj; exact hj)) (fun M3 o3 k3 f3 => ?_)
      have ml := m_own_len k3
      rw [o3] at ml
      have ff := m_fr_trans f f3
      have k99 : ∀ gr', (gr' = 0 → gr = 0 ∧ ∀ q ∈ l_inh (w_l S l) (r 0) r ps, q.2.2 ≤ 1000000) → (gr' ≠ 0 → d_fine S (r 0) r ps) → WX12_death_99 (WX12_death_51 Q d2) Q x (r 0) mo l gr' M3 := fun gr' a1 a2 => by
        unfold WX12_death_99 VX12_death_99 WX12_death_114 VX12_death_114 WX12_death_119 VX12_death_119
        have more : d_full S (r 0) r ps → WX12_death_121 (WX12_death_51 Q d2) Q x (r 0) gr' 1 l M3 := fun hfl => k121 gr' 1 M3 ff (fun e => ⟨(a1 e).1, fun _ => (a1 e).2⟩) a2 (fun z => by omega) (fun _ => hfl)
        exact ⟨fun ne => more (i4 ne), fun e => ⟨fun le => k121 gr' 0 M3 ff (fun e => ⟨(a1 e).1, fun _ => (a1 e).2⟩) a2 (fun _ => ⟨e, fun _ => by omega⟩) (fun z => absurd rfl z), fun gt => more (hF l k2 g (by omega))⟩⟩
      have k94 : d_fine S (r 0) r ps → WX12_death_94 (WX12_death_51 Q d2) Q x (r 0) mo l M3 := fun hfi => by
        unfold WX12_death_94 VX12_death_94
        exact k99 1 (fun z => by omega) (fun _ => hfi)
      refine ⟨fun ne => k94 (i2 ne), fun e => m_isGreat k3 (fun ⟨q, q1, q2⟩ => ⟨fun z => by omega, fun _ => k94 (hG l k2 g ⟨q, by rw [← o3]; exact q1, q2⟩)⟩) (fun hh => ⟨fun _ => k99 0 (fun _ => ⟨e, fun q q1 => hh q (by rw [o3]; exact q1)⟩) (fun z => absurd rfl z), fun z => absurd rfl z⟩)⟩
  unfold WX12_death VX12_death
  rw [show (0 : Int).toNat = 0 from rfl, i0, tx, hn]
  have mainE := main
  rw [e0] at mainE ⊢
  refine ⟨by omega, m_idt (t := 80 * 1 + p) (by omega) (by omega) (by omega) ?_⟩
  rw [show (((80 * 1 + p : Nat)) : Int).toNat = 80 * 1 + p by omega, c7, R_nat hR hpi n0]
  refine ⟨by omega, fun _ => ⟨by omega, fun le => mainE (fun z => by omega) M m_fr_refl, fun gt => ?_⟩, fun z => absurd rfl z⟩
  have e7 := h7 gt
  refine m_areParts (from_ := 1) (ps := ps) (r := r) hx he (by rw [hn]; exact hn6) (hf gt) (by omega) (fun k hk => hr k (by rw [hn] at hk; exact hk)) hp (fun nm w M3 f3 _ _ => ⟨fun _ => mainE (fun z => ?_) M3 f3, fun z => by omega⟩) (fun bad M3 f3 _ _ => ⟨fun z => absurd rfl z, fun _ => q6a ⟨gt, ?_⟩ M3 ?_ ?_ (m_fr_keep f3)⟩)
  · rw [hn, show ((1 : Nat) : Int) + n = (V d).1 7 by omega] at nm
    rcases z.2 with z | z
    · exact nm z
    · rw [w] at z; cases z
  · rw [hn, show ((1 : Nat) : Int) + n = (V d).1 7 by omega] at bad
    rw [e0]; exact bad
  · exact (R_all_fr h f3).1
  · exact (R_all_fr h f3).2.2.1
