/-! how the class's World and what the model holds go together -/
def R_l (x : w_L) (t : w_T) (nl : n_L) : Prop := (t.1 0 = x.1 0 ∧ t.1 2 = x.1 1 ∧ t.1 6 = x.1 2 ∧ t.1 3 = 2147483647) ∧ nl = x.2
def R_p (i : Nat) (x t : w_T) : Prop := (t.1 0 = x.1 0 ∧ t.1 2 = x.1 2 ∧ t.1 3 = 2147483647 ∧ x.1 3 = 1000000 ∧ t.1 5 = x.1 5) ∧ (t.1 7 = (if i = 0 then 2 else x.1 7) ∧ (x.1 7 = 0 ∨ x.1 7 = 1) ∧ (i = 0 → x.1 7 = 1)) ∧ (x.1 7 = 0 → (t.1 4 = x.1 4 ∧ x.1 6 = cal_full (x.1 4)) ∧ 0 ≤ x.1 4 ∧ x.1 4 ≤ 219144) ∧ (x.1 7 = 1 → x.1 4 = -1)
def R_b (s : Nat) (x t : w_T) : Prop := (s ≠ 3 → t.1 5 = x.1 5) ∧ (s = 2 ∨ s = 4 → t.1 6 = x.1 6) ∧ (s = 3 → t.1 7 = x.1 7 ∧ t.2.1 = x.2.2 ∧ t.2.2 = x.2.1) ∧ (s ≠ 3 → t.2.1 = x.2.1 ∧ t.2.2 = [] ∧ x.2.2 = []) ∧ (s = 4 → t.1 4 = x.1 4) ∧ (4 ≤ s → t.1 3 = x.1 3) ∧ (s < 4 → t.1 3 = 2147483647 ∧ x.1 3 = 1000000)
def R_t (day : Int) (s : Nat) (x t : w_T) : Prop := t.1 0 = x.1 0 ∧ t_thr t day = t_thr x day ∧ (t_thr x day = true → R_b s x t)
def R_sale (V : Nat → v_D) (x : w_T) (y : n_X) : Prop := (y.1 0 = r_get x.2.1 0 ∧ y.1 5 = x.1 5 ∧ y.1 4 = x.1 4 ∧ y.1 8 = x.1 8 ∧ y.1 12 = x.1 12 ∧ y.1 13 = x.1 13) ∧ y.2.1 = x.2.2 ∧ y.2.2 = (V (x.1 11).toNat).2.2.2.1.map (fun p => s_red (x.1 12 * p.1) (x.1 13 * p.2))
/-- in the order in which they were made -/
def R_m (S : w_S) (N : n_S) (a : Int) : Prop := (∀ k i : Nat, (k : Int) < S.1 7 → (i : Int) < S.1 6 → ((N.2.1 (80 * 6 + i)).1 1 < (N.2.2.2.2.1 k).1 1 ↔ (w_t S 6 i).1 1 < (w_t S 7 k).1 1)) ∧ (∀ c i : Nat, (c : Int) < S.1 2 → (i : Int) < S.1 4 → ((N.2.1 (80 * 2 + c)).1 1 < (N.2.1 (80 * 4 + i)).1 1 ↔ ¬ (w_t S 4 i).1 1 < (w_t S 2 c).1 1)) ∧ (∀ s i : Nat, 1 ≤ s → s < 8 → (i : Int) < S.1 s → (w_t S s i).1 1 < a) ∧ (∀ s i : Nat, s < 7 → (i : Int) < S.1 s → (N.2.1 (80 * s + i)).1 1 < N.2.2.2.2.2.1) ∧ (∀ k : Nat, (k : Int) < S.1 7 → (N.2.2.2.2.1 k).1 1 < N.2.2.2.2.2.1) ∧ N.2.2.2.2.2.1 = S.1 0 + S.1 1 + S.1 2 + S.1 3 + S.1 4 + S.1 5 + S.1 6 + S.1 7
def R_S (V : Nat → v_D) (S : w_S) (N : n_S) (a : Int) : Prop :=
  ((∀ s, s < 7 → N.1 s = S.1 s) ∧ N.2.2.2.2.2.2.2 = S.1 7) ∧ N.2.2.2.2.2.2.1 = S.2.2.2 ∧
  (∀ i : Nat, (i : Int) < S.1 0 → R_l (S.2.1 i) (N.2.1 i) (N.2.2.1 i)) ∧
  (∀ i : Nat, (i : Int) < S.1 1 → R_p i (w_t S 1 i) (N.2.1 (80 * 1 + i))) ∧
  (∀ s i : Nat, 2 ≤ s → s ≤ 6 → (i : Int) < S.1 s → R_t S.2.2.2 s (w_t S s i) (N.2.1 (80 * s + i))) ∧
  (∀ i : Nat, (i : Int) < S.1 3 → N.2.2.2.1 i = (V ((w_t S 3 i).1 11).toNat).2.2.2.2) ∧
  (∀ k : Nat, (k : Int) < S.1 7 → R_sale V (w_t S 7 k) (N.2.2.2.2.1 k)) ∧ R_m S N a
def R_z (S : w_S) : Prop := ∀ s, s < 8 → 0 ≤ S.1 s ∧ S.1 s ≤ w_mx s
/-! what the model's arrays hold, by n_of -/
theorem n_c {M : e_M} {t : Nat} (h : t < 560) : M 4484 t = ((n_of M).2.1 t).1 0 ∧ M 4488 t = ((n_of M).2.1 t).1 1 ∧ M 4485 t = ((n_of M).2.1 t).1 2 ∧ M 4487 t = ((n_of M).2.1 t).1 3 ∧ M 4486 t = ((n_of M).2.1 t).1 4 ∧ M 4489 t = ((n_of M).2.1 t).1 5 ∧ M 4490 t = ((n_of M).2.1 t).1 6 ∧ M 4491 t = ((n_of M).2.1 t).1 7 := by
  rw [n_t h]; exact ⟨rfl, rfl, rfl, rfl, rfl, rfl, rfl, rfl⟩
theorem n_r {M : e_M} {t : Nat} (h : t < 560) : j_row M 4492 4493 t = ((n_of M).2.1 t).2.1 ∧ j_row M 4494 4495 t = ((n_of M).2.1 t).2.2 := by
  rw [n_t h]; exact ⟨rfl, rfl⟩
theorem m_id {M : e_M} {s i : Int} {Q : Int → Prop} (hs : 0 ≤ s ∧ s ≤ 7) (hi : 0 ≤ i ∧ i ≤ 80) (hq : Q (80 * s + i)) : WX12_id s i M Q := by
  unfold WX12_id VX12_id
  rw [s_w (x := 80 * s) (by omega) (by omega), s_w (by omega) (by omega)]
  exact hq
theorem t_thr_iff {t : w_T} {day : Int} : t_thr t day = true ↔ t.1 2 = 0 ∧ day < t.1 3 := by
  unfold t_thr
  rw [Bool.and_eq_true, decide_eq_true_iff, decide_eq_true_iff]
theorem t_thr_f {t : w_T} {day : Int} (h : ¬ (t.1 2 = 0 ∧ day < t.1 3)) : t_thr t day = false := by
  cases e : t_thr t day with
  | false => rfl
  | true => exact absurd (t_thr_iff.mp e) h
theorem m_isThere {M : e_M} {s i : Nat} {day : Int} {Q : Int → Prop} (hs : s < 7) (hi : i < 80) (q1 : t_thr ((n_of M).2.1 (80 * s + i)) day = true → Q 1) (q0 : t_thr ((n_of M).2.1 (80 * s + i)) day = false → Q 0) : WX12_isThere s i day M Q := by
  obtain ⟨-, -, c2, c3, -⟩ := n_c (M := M) (t := 80 * s + i) (by omega)
  unfold WX12_isThere VX12_isThere
  refine m_id (by omega) (by omega) ?_
  rw [show (80 * (s : Int) + (i : Int)).toNat = 80 * s + i by omega, c2]
  refine ⟨by omega, fun ne => q0 (t_thr_f (fun z => ne z.1)), fun e => m_id (by omega) (by omega) ?_⟩
  rw [show (80 * (s : Int) + (i : Int)).toNat = 80 * s + i by omega, c3]
  exact ⟨by omega, fun le => q0 (t_thr_f (fun z => by omega)), fun lt => q1 (t_thr_iff.mpr ⟨e, lt⟩)⟩
theorem R_mx {S : w_S} (hz : R_z S) {s i : Nat} (hs : s < 7) (hi : (i : Int) < S.1 s) : i < 80 := by
  have := hz s (by omega)
  have : w_mx s ≤ 80 := by unfold w_mx; (repeat' split) <;> omega
  omega
/-- whether something is there: on both sides alike -/
theorem R_thr {V : Nat → v_D} {S : w_S} {N : n_S} {a : Int} (hR : R_S V S N a) (hd : S.2.2.2 < 1000000) {s i : Nat} (hs : s < 7) (hi : (i : Int) < S.1 s) : t_thr (N.2.1 (80 * s + i)) S.2.2.2 = w_thr S s i := by
  obtain ⟨-, -, h3, h4, h5, -⟩ := hR
  unfold w_thr
  by_cases c0 : s = 0
  · subst c0
    rw [if_pos rfl]
    have e := (h3 i hi).1
    rw [show 80 * 0 + i = i by omega]
    unfold t_thr
    rw [e.2.1, e.2.2.2, show decide (S.2.2.2 < 2147483647) = true from decide_eq_true (by omega), Bool.and_true]
    rfl
  · rw [if_neg c0]
    by_cases c1 : s = 1
    · subst c1
      have e := (h4 i hi).1
      unfold t_thr
      rw [e.2.1, e.2.2.1, e.2.2.2.1, show decide (S.2.2.2 < 2147483647) = true from decide_eq_true (by omega)]
      rw [show decide (w_d S < 1000000) = true from decide_eq_true hd]
    · exact (h5 s i (by omega) (by omega) hi).2.1
theorem R_nm {V : Nat → v_D} {S : w_S} {N : n_S} {a : Int} (hR : R_S V S N a) {s i : Nat} (hs : s < 7) (hi : (i : Int) < S.1 s) : (N.2.1 (80 * s + i)).1 0 = w_nm S s i := by
  obtain ⟨-, -, h3, h4, h5, -⟩ := hR
  unfold w_nm
  by_cases c0 : s = 0
  · subst c0
    rw [if_pos rfl, show 80 * 0 + i = i by omega]
    exact (h3 i hi).1.1
  · rw [if_neg c0]
    by_cases c1 : s = 1
    · subst c1; exact (h4 i hi).1.1
    · exact (h5 s i (by omega) (by omega) hi).1
/-- OF AGE: on both sides alike -/
theorem m_isAge {M : e_M} {V : Nat → v_D} {S : w_S} {a : Int} {p : Nat} {Q : Int → Prop} (hc : cm_ok M) (hR : R_S V S (n_of M) a) (hz : R_z S) (hd : 0 ≤ S.2.2.2 ∧ S.2.2.2 ≤ 219144) (hp : (p : Int) < S.1 1) (q1 : w_age S p = true → Q 1) (q0 : w_age S p = false → Q 0) : WX12_isAge p S.2.2.2 M Q := by
  have hp80 := R_mx hz (show 1 < 7 by omega) hp
  obtain ⟨-, -, -, -, c4, -, -, c7⟩ := n_c (M := M) (t := 80 * 1 + p) (by omega)
  obtain ⟨⟨e0, e2, e3, e4, e5⟩, ⟨k7, k01, k0⟩, kn, kf⟩ := hR.2.2.2.1 p hp
  unfold w_age at q1 q0
  unfold WX12_isAge VX12_isAge
  refine m_id (by omega) (by omega) ?_
  rw [show (80 * (1 : Int) + (p : Int)).toNat = 80 * 1 + p by omega, c7, k7, c4]
  refine ⟨by omega, fun le => ?_, fun gt => q1 ?_⟩
  · have x0 : (w_t S 1 p).1 7 = 0 := by
      by_cases c : p = 0
      · rw [if_pos c] at le; omega
      · rw [if_neg c] at le; omega
    obtain ⟨⟨f4, f6⟩, b1, b2⟩ := kn x0
    rw [f4]
    obtain ⟨y, m, d, hi⟩ := cal_ex (day := ((w_t S 1 p).1 4).toNat)
    have eb : (w_t S 1 p).1 4 = ((((w_t S 1 p).1 4).toNat : Nat) : Int) := by omega
    have hy : y < 600 := by
      have b := cal_is_b hi
      by_cases c : y < 600
      · exact c
      · have := cal_yd_mono (show 600 ≤ y by omega)
        have e : cal_yd 600 = 219145 := by decide
        omega
    have ff := cal_full_ok hi (by omega)
    rw [← eb] at ff
    rw [eb]
    refine ⟨by omega, by omega, m_yearOf hc hi (by omega) ?_⟩
    rw [s_w (by omega) (by omega), show 1700 + (y : Int) + 18 = 1700 + ((y + 18 : Nat) : Int) by omega]
    refine m_anniversary hc hi (by omega) (by omega) ?_
    have age : w_age S p = decide (cal_full ((w_t S 1 p).1 4) ≤ S.2.2.2) := by
      unfold w_age
      rw [x0, f6]; rfl
    unfold w_age at age
    have ge : ¬ y + 18 < 600 → 219145 ≤ cal_ann (y + 18) m d := by
      intro c
      have m1 := cal_yd_mono (show 600 ≤ y + 18 by omega)
      have e : cal_yd 600 = 219145 := by decide
      unfold cal_ann
      split <;> omega
    refine ⟨fun lt => q0 ?_, fun ge' => q1 ?_⟩
    · rw [age, decide_eq_false_iff_not, ff]
      split <;> omega
    · rw [age, decide_eq_true_iff, ff]
      split
      · exact ge'
      · have := ge (by assumption); omega
  · have x1 : (w_t S 1 p).1 7 = 1 := by
      by_cases c : p = 0
      · exact k0 c
      · rw [if_neg c] at gt; omega
    rw [x1]; rfl
theorem m_isAble {M : e_M} {V : Nat → v_D} {S : w_S} {a : Int} {p : Nat} {Q : Int → Prop} (hc : cm_ok M) (hR : R_S V S (n_of M) a) (hz : R_z S) (hd : 0 ≤ S.2.2.2 ∧ S.2.2.2 ≤ 219144) (hp : (p : Int) < S.1 1) (hw : (w_t S 1 p).1 5 < S.1 1) (q1 : w_abl S p = true → Q 1) (q0 : w_abl S p = false → Q 0) : WX12_isAble p S.2.2.2 M Q := by
  have hp80 := R_mx hz (show 1 < 7 by omega) hp
  obtain ⟨-, -, -, -, -, c5, -, c7⟩ := n_c (M := M) (t := 80 * 1 + p) (by omega)
  obtain ⟨⟨e0, e2, e3, e4, e5⟩, ⟨k7, k01, k0⟩, kn, kf⟩ := hR.2.2.2.1 p hp
  unfold w_abl at q1 q0
  have hid : ∀ {Q : Int → Prop}, Q (((80 * 1 + p : Nat)) : Int) → WX12_id 1 p M Q := fun h => m_id (by omega) (by omega) (by rw [show 80 * (1 : Int) + (p : Int) = ((80 * 1 + p : Nat) : Int) by omega]; exact h)
  unfold WX12_isAble VX12_isAble
  refine hid ?_
  rw [show (((80 * 1 + p : Nat)) : Int).toNat = 80 * 1 + p by omega, c7, c5, k7, e5]
  have bby : ∀ f : Int, (f = 0 ∨ f = 1) → (f = 1 ↔ (decide (0 ≤ (w_t S 1 p).1 5) && (w_thr S 1 ((w_t S 1 p).1 5).toNat && w_age S ((w_t S 1 p).1 5).toNat)) = true) → p ≠ 0 → WX12_isAble_57 M Q p S.2.2.2 (((80 * 1 + p : Nat)) : Int) f := by
    intro f f01 hf p0
    rw [decide_eq_false p0, Bool.false_or] at q1 q0
    rw [if_neg p0] at k7
    have k88 : ((decide ((w_t S 1 p).1 7 = 0) && w_age S p) || (decide (0 ≤ (w_t S 1 p).1 5) && (w_thr S 1 ((w_t S 1 p).1 5).toNat && w_age S ((w_t S 1 p).1 5).toNat))) = true → WX12_isAble_88 M Q := fun e => by
      unfold WX12_isAble_88 VX12_isAble_88
      exact ⟨Or.inr rfl, q1 e⟩
    unfold WX12_isAble_57 VX12_isAble_57
    rw [show (((80 * 1 + p : Nat)) : Int).toNat = 80 * 1 + p by omega, c7, k7]
    refine ⟨by omega, fun n1 => ?_, fun e1 => ⟨f01, ?_⟩⟩
    · have x0 : (w_t S 1 p).1 7 = 0 := by omega
      rw [decide_eq_true x0, Bool.true_and] at q1 q0 k88
      refine m_isAge hc hR hz hd hp (fun ag => ⟨fun _ => k88 (by rw [ag]; rfl), fun z => by omega⟩) (fun ag => ⟨fun z => absurd rfl z, fun _ => ⟨fun z => ⟨Or.inl rfl, q0 ?_⟩, fun ne => k88 ?_⟩⟩)
      · rw [ag, Bool.false_or]
        cases b : (decide (0 ≤ (w_t S 1 p).1 5) && (w_thr S 1 ((w_t S 1 p).1 5).toNat && w_age S ((w_t S 1 p).1 5).toNat)) with
        | false => rfl
        | true => have := hf.mpr b; omega
      · rw [ag, Bool.false_or]; exact hf.mp (by omega)
    · rw [decide_eq_false (show ¬ (w_t S 1 p).1 7 = 0 by omega), Bool.false_and, Bool.false_or] at q1 q0
      rcases f01 with z | z
      · rw [z]
        refine q0 ?_
        cases b : (decide (0 ≤ (w_t S 1 p).1 5) && (w_thr S 1 ((w_t S 1 p).1 5).toNat && w_age S ((w_t S 1 p).1 5).toNat)) with
        | false => rfl
        | true => have := hf.mpr b; omega
      · rw [z]; exact q1 (hf.mp z)
  have k56 : p ≠ 0 → (decide (0 ≤ (w_t S 1 p).1 5) && (w_thr S 1 ((w_t S 1 p).1 5).toNat && w_age S ((w_t S 1 p).1 5).toNat)) = false → WX12_isAble_56 M Q p S.2.2.2 (((80 * 1 + p : Nat)) : Int) := fun p0 b => by
    show WX12_isAble_57 M Q p S.2.2.2 _ 0
    exact bby 0 (Or.inl rfl) ⟨fun z => by omega, fun z => by rw [b] at z; cases z⟩ p0
  refine ⟨by omega, fun n2 => ?_, fun e2 => q1 ?_⟩
  · have p0 : p ≠ 0 := fun c => by rw [if_pos c] at n2; exact n2 rfl
    refine ⟨by omega, fun lt => k56 p0 (by rw [decide_eq_false (Int.not_le.mpr lt)]; rfl), fun ge => ?_⟩
    have ew : (w_t S 1 p).1 5 = ((((w_t S 1 p).1 5).toNat : Nat) : Int) := by omega
    have hwl : ((((w_t S 1 p).1 5).toNat : Nat) : Int) < S.1 1 := by omega
    rw [decide_eq_true ge, Bool.true_and] at bby k56
    rw [ew]
    have tt := R_thr hR (by omega) (show 1 < 7 by omega) hwl
    refine m_isThere (s := 1) (by omega) (R_mx hz (show 1 < 7 by omega) hwl) (fun t => ⟨fun z => by omega, fun _ => m_isAge hc hR hz hd hwl (fun ag => ⟨fun z => by omega, fun _ => bby 1 (Or.inr rfl) ⟨fun _ => ?_, fun _ => rfl⟩ p0⟩) (fun ag => ⟨fun _ => k56 p0 ?_, fun z => absurd rfl z⟩)⟩) (fun t => ⟨fun _ => k56 p0 ?_, fun z => absurd rfl z⟩)
    · rw [← tt, t, ag]; rfl
    · rw [ag, Bool.and_false]
    · rw [← tt, t]; rfl
  · have p0 : p = 0 := by
      by_cases c : p = 0
      · exact c
      · rw [if_neg c] at e2; omega
    rw [decide_eq_true p0]; rfl
