/-! two of the class's Worlds with the same in them, whatever else lies in their cells -/
def t_eq (s : Nat) (t t' : w_T) : Prop := (∀ k, k < 14 → k ≠ 9 → k ≠ 10 → (k = 11 → s ≠ 1) → t.1 k = t'.1 k) ∧ t.2 = t'.2
def E_S (S S' : w_S) : Prop := (∀ s, s < 8 → S.1 s = S'.1 s) ∧ (∀ i : Nat, (i : Int) < S.1 0 → S.2.1 i = S'.2.1 i) ∧ (∀ s i : Nat, 1 ≤ s → s < 8 → (i : Int) < S.1 s → t_eq s (w_t S s i) (w_t S' s i)) ∧ S.2.2.2 = S'.2.2.2
theorem t_eq_refl {s : Nat} {t : w_T} : t_eq s t t := ⟨fun _ _ _ _ _ => rfl, rfl⟩
theorem t_eq_s {s : Nat} {t t' : w_T} (h : t_eq s t t') {k : Nat} (hk : k < 14 ∧ k ≠ 9 ∧ k ≠ 10 ∧ (k = 11 → s ≠ 1)) : t.1 k = t'.1 k := h.1 k hk.1 hk.2.1 hk.2.2.1 hk.2.2.2
theorem t_eq_put {s : Nat} {t t' : w_T} (h : t_eq s t t') {k : Nat} {v : Int} : t_eq s (s_fu t.1 k v, t.2) (s_fu t'.1 k v, t'.2) := by
  refine ⟨fun j j1 j2 j3 j4 => ?_, h.2⟩
  show s_fu t.1 k v j = s_fu t'.1 k v j
  unfold s_fu
  split
  · rfl
  · exact h.1 j j1 j2 j3 j4
theorem t_eq_thr {s : Nat} {t t' : w_T} (h : t_eq s t t') {day : Int} : t_thr t day = t_thr t' day := by
  unfold t_thr
  rw [h.1 2 (by omega) (by omega) (by omega) (fun z => by omega), h.1 3 (by omega) (by omega) (by omega) (fun z => by omega)]
theorem E_lot {S S' : w_S} (h : E_S S S') {i : Nat} (hi : (i : Int) < S.1 0) : w_l S i = w_l S' i := h.2.1 i hi
theorem E_th {S S' : w_S} (h : E_S S S') {s i : Nat} (hs : 1 ≤ s ∧ s < 8) (hi : (i : Int) < S.1 s) : t_eq s (w_t S s i) (w_t S' s i) := h.2.2.1 s i hs.1 hs.2 hi
theorem E_setT {S S' : w_S} (h : E_S S S') (hz : R_z S) {s i : Nat} {t t' : w_T} (hs : 1 ≤ s ∧ s < 8) (hi : (i : Int) < S.1 s) (ht : t_eq s t t') : E_S (w_setT S (w_F s + i) t) (w_setT S' (w_F s + i) t') := by
  refine ⟨h.1, h.2.1, fun r j r1 r8 hj => ?_, h.2.2.2⟩
  have hj : (j : Int) < S.1 r := hj
  have him := R_lt hz hs.2 hi
  have hjm := R_lt hz r8 hj
  rw [w_t_set hs ⟨r1, r8⟩ him hjm, w_t_set hs ⟨r1, r8⟩ him hjm]
  by_cases c : r = s ∧ j = i
  · rw [if_pos c, if_pos c, c.1]; exact ht
  · rw [if_neg c, if_neg c]; exact h.2.2.1 r j r1 r8 hj
theorem E_put {S S' : w_S} (h : E_S S S') (hz : R_z S) {s i k : Nat} {v : Int} (hs : 1 ≤ s ∧ s < 8) (hi : (i : Int) < S.1 s) : E_S (w_put S (w_F s + i) k v) (w_put S' (w_F s + i) k v) := E_setT h hz hs hi (t_eq_put (E_th h hs hi))
theorem E_lts {S S' : w_S} (h : E_S S S') (hz : R_z S) {s i : Nat} {r : List Int} (hs : 1 ≤ s ∧ s < 8) (hi : (i : Int) < S.1 s) : E_S (w_lts S (w_F s + i) r) (w_lts S' (w_F s + i) r) := by
  have e := E_th h hs hi
  refine E_setT h hz hs hi ⟨e.1, ?_⟩
  show (r, (w_t S s i).2.2) = (r, (w_t S' s i).2.2)
  rw [e.2]
theorem E_setL {S S' : w_S} (h : E_S S S') {l : Nat} {x : w_L} : E_S (w_setL S l x) (w_setL S' l x) := by
  refine ⟨h.1, fun i hi => ?_, h.2.2.1, h.2.2.2⟩
  show s_fu S.2.1 l x i = s_fu S'.2.1 l x i
  unfold s_fu
  split
  · rfl
  · exact h.2.1 i hi
theorem E_ows {S S' : w_S} (h : E_S S S') {l : Nat} {o : s_Own} (hl : (l : Int) < S.1 0) : E_S (w_ows S l o) (w_ows S' l o) := by
  unfold w_ows
  rw [h.2.1 l hl]; exact E_setL h
theorem E_chg {S S' : w_S} (h : E_S S S') {l : Nat} {r : List Int} (hl : (l : Int) < S.1 0) : E_S (w_chg S l r) (w_chg S' l r) := by
  unfold w_chg
  rw [h.2.1 l hl]; exact E_setL h
theorem E_lpt {S S' : w_S} (h : E_S S S') {l k : Nat} {v : Int} (hl : (l : Int) < S.1 0) : E_S (w_lpt S l k v) (w_lpt S' l k v) := by
  unfold w_lpt
  rw [h.2.1 l hl]; exact E_setL h
theorem E_fgs {S S' : w_S} (h : E_S S S') {l : Nat} {f : s_Fig} (hl : (l : Int) < S.1 0) : E_S (w_fgs S l f) (w_fgs S' l f) := by
  unfold w_fgs
  rw [h.2.1 l hl]; exact E_setL h
theorem E_addT {S S' : w_S} (h : E_S S S') (hz : R_z S) {s : Nat} {x x' : w_T} (hs : 1 ≤ s ∧ s < 8) (hf : S.1 s < w_mx s) (hx : t_eq s x x') : E_S (w_addT S s x) (w_addT S' s x') := by
  have es := h.1 s hs.2
  refine ⟨fun r hr => ?_, fun i hi => ?_, fun r j r1 r8 hj => ?_, h.2.2.2⟩
  · rw [w_z_add, w_z_add, es, h.1 r hr]
  · have : (i : Int) < S.1 0 := by
      have e : (w_addT S s x).1 0 = S.1 0 := by rw [w_z_add, if_neg (by omega)]
      rw [← e]; exact hi
    exact h.2.1 i this
  · have z := hz s hs.2
    have zr := hz r r8
    have hjm : j < w_mx r := by
      rw [w_z_add] at hj
      split at hj
      · next c => subst c; omega
      · omega
    rw [w_t_add hs ⟨r1, r8⟩ (by omega) hjm, w_t_add hs ⟨r1, r8⟩ (by rw [← es]; omega) hjm, ← es]
    by_cases c : r = s ∧ j = (S.1 s).toNat
    · rw [if_pos c, if_pos c, c.1]; exact hx
    · rw [if_neg c, if_neg c]
      refine h.2.2.1 r j r1 r8 ?_
      rw [w_z_add] at hj
      split at hj
      · next c2 => subst c2; omega
      · exact hj
theorem E_addL {S S' : w_S} (h : E_S S S') (hz : R_z S) {x : w_L} : E_S (w_addL S x) (w_addL S' x) := by
  have e0 := h.1 0 (by omega)
  have z0 := hz 0 (by omega)
  have sz : ∀ (Y : w_S) (r : Nat), (w_addL Y x).1 r = if r = 0 then Y.1 0 + 1 else Y.1 r := fun Y r => rfl
  refine ⟨fun r hr => ?_, fun i hi => ?_, fun r j r1 r8 hj => ?_, h.2.2.2⟩
  · rw [sz, sz, e0, h.1 r hr]
  · rw [sz, if_pos rfl] at hi
    show s_fu S.2.1 (S.1 0).toNat x i = s_fu S'.2.1 (S'.1 0).toNat x i
    rw [← e0]
    unfold s_fu
    split
    · rfl
    · exact h.2.1 i (by omega)
  · rw [sz, if_neg (by omega)] at hj
    exact h.2.2.1 r j r1 r8 hj
theorem E_map {S S' : w_S} (h : E_S S S') (hz : R_z S) {lo up : Nat} {f : Nat → w_T → w_T} (hf : ∀ s t t', lo ≤ s → t_eq s t t' → t_eq s (f s t) (f s t')) : E_S (w_map S lo up f) (w_map S' lo up f) := by
  have hz' : R_z S' := fun s hs => by rw [← h.1 s hs]; exact hz s hs
  refine ⟨h.1, h.2.1, fun s i s1 s8 hi => ?_, h.2.2.2⟩
  have hi : (i : Int) < S.1 s := hi
  rw [w_map_at hz ⟨s1, s8⟩ hi, w_map_at hz' ⟨s1, s8⟩ (by rw [← h.1 s s8]; exact hi)]
  split
  · next c => exact hf s _ _ c.1 (h.2.2.1 s i s1 s8 hi)
  · exact h.2.2.1 s i s1 s8 hi
theorem E_z {S S' : w_S} (h : E_S S S') (hz : R_z S) : R_z S' := fun s hs => by rw [← h.1 s hs]; exact hz s hs
theorem E_symm {S S' : w_S} (h : E_S S S') : E_S S' S := ⟨fun s hs => (h.1 s hs).symm, fun i hi => (h.2.1 i (by rw [h.1 0 (by omega)]; exact hi)).symm, fun s i s1 s8 hi => by
  have := h.2.2.1 s i s1 s8 (by rw [h.1 s s8]; exact hi)
  exact ⟨fun k k1 k2 k3 k4 => (this.1 k k1 k2 k3 k4).symm, this.2.symm⟩, h.2.2.2.symm⟩
/-! what is asked of Worlds -/
theorem E_thr {S S' : w_S} (h : E_S S S') {s i : Nat} (hs : s < 8) (hi : (i : Int) < S.1 s) : w_thr S s i = w_thr S' s i := by
  unfold w_thr
  by_cases c : s = 0
  · subst c
    rw [if_pos rfl, if_pos rfl, E_lot h hi]
  · rw [if_neg c, if_neg c]
    show t_thr (w_t S s i) S.2.2.2 = t_thr (w_t S' s i) S'.2.2.2
    rw [t_eq_thr (E_th h (by omega) hi), h.2.2.2]
theorem E_age {S S' : w_S} (h : E_S S S') {p : Nat} (hp : (p : Int) < S.1 1) : w_age S p = w_age S' p := by
  have e := E_th h (s := 1) (by omega) hp
  unfold w_age
  rw [t_eq_s e (k := 7) (by omega), t_eq_s e (k := 6) (by omega)]
  have : w_d S = w_d S' := h.2.2.2
  rw [this]
theorem E_abl {S S' : w_S} (h : E_S S S') {p : Nat} (hp : (p : Int) < S.1 1) (hw : (w_t S 1 p).1 5 < S.1 1) : w_abl S p = w_abl S' p := by
  have e := E_th h (s := 1) (by omega) hp
  unfold w_abl
  rw [← t_eq_s e (k := 7) (by omega), ← t_eq_s e (k := 5) (by omega), ← E_age h hp]
  by_cases c : 0 ≤ (w_t S 1 p).1 5
  · rw [← E_thr h (s := 1) (by omega) (by omega), ← E_age h (p := ((w_t S 1 p).1 5).toNat) (by omega)]
  · rw [decide_eq_false c, Bool.false_and, Bool.false_and]
theorem E_oab {S S' : w_S} (h : E_S S S') (hg : w_rg S) {l : Nat} (hl : (l : Int) < S.1 0) : w_oab S l ↔ w_oab S' l := by
  unfold w_oab
  rw [← E_lot h hl]
  have ho := (hg.1 l hl).2.2.1
  have key : ∀ q ∈ (w_l S l).2.2.2, w_abl S q.1.toNat = w_abl S' q.1.toNat := fun q hq => by
    have b := ho q hq
    change 0 ≤ q.1 ∧ q.1 < S.1 1 at b
    have hw := (hg.2 1 q.1.toNat (by omega) (by omega) (by show ((q.1.toNat : Nat) : Int) < S.1 1; omega)).1.1
    exact E_abl h (by omega) hw
  exact ⟨fun z q hq => by rw [← key q hq]; exact z q hq, fun z q hq => by rw [key q hq]; exact z q hq⟩
theorem E_bar {S S' : w_S} (h : E_S S S') {l but : Int} : w_bar S l but ↔ w_bar S' l but := by
  have one : ∀ {S S' : w_S}, E_S S S' → w_bar S l but → w_bar S' l but := fun {S S'} h ⟨i, i1, i2, i3, i4⟩ => by
    have e := E_th h (s := 5) (by omega) i1
    exact ⟨i, by show (i : Int) < S'.1 5; rw [← h.1 5 (by omega)]; exact i1, by rw [← E_thr h (by omega) i1]; exact i2, by rw [← e.2]; exact i3, by rw [← t_eq_s e (k := 5) (by omega)]; exact i4⟩
  exact ⟨one h, one (E_symm h)⟩
theorem E_leased {S S' : w_S} (h : E_S S S') {l : Int} : w_leased S l ↔ w_leased S' l := by
  have one : ∀ {S S' : w_S}, E_S S S' → w_leased S l → w_leased S' l := fun {S S'} h ⟨i, i1, i2, i3⟩ => by
    have e := E_th h (s := 4) (by omega) i1
    exact ⟨i, by show (i : Int) < S'.1 4; rw [← h.1 4 (by omega)]; exact i1, by rw [← E_thr h (by omega) i1]; exact i2, by rw [← e.2]; exact i3⟩
  exact ⟨one h, one (E_symm h)⟩
theorem E_busyL {S S' : w_S} (h : E_S S S') {p : Int} : w_busyL S p ↔ w_busyL S' p := by
  have one : ∀ {S S' : w_S}, E_S S S' → w_busyL S p → w_busyL S' p := fun {S S'} h ⟨i, i1, i2, i3⟩ =>
    ⟨i, by show (i : Int) < S'.1 0; rw [← h.1 0 (by omega)]; exact i1, by rw [← E_lot h i1]; exact i2, by rw [← E_lot h i1]; exact i3⟩
  exact ⟨one h, one (E_symm h)⟩
theorem E_busyT {S S' : w_S} (h : E_S S S') {p : Int} : w_busyT S p ↔ w_busyT S' p := by
  have one : ∀ {S S' : w_S}, E_S S S' → w_busyT S p → w_busyT S' p := fun {S S'} h ⟨s, i, s1, s2, s3, i1, i2, i3⟩ =>
    ⟨s, i, s1, s2, s3, by show (i : Int) < S'.1 s; rw [← h.1 s (by omega)]; exact i1, by rw [← E_thr h (by omega) i1]; exact i2, by rw [← t_eq_s (E_th h (s := s) (by omega) i1) (k := 5) (by omega)]; exact i3⟩
  exact ⟨one h, one (E_symm h)⟩
/-- what the model holds goes together with both -/
theorem R_p_eq {s i : Nat} {x x' t : w_T} (h : t_eq s x x') (hp : R_p i x t) : R_p i x' t := by
  unfold R_p at *
  rw [← t_eq_s h (k := 0) (by omega), ← t_eq_s h (k := 2) (by omega), ← t_eq_s h (k := 3) (by omega), ← t_eq_s h (k := 4) (by omega), ← t_eq_s h (k := 5) (by omega), ← t_eq_s h (k := 6) (by omega), ← t_eq_s h (k := 7) (by omega)]
  exact hp
theorem R_t_eq {day : Int} {s : Nat} {x x' t : w_T} (h : t_eq s x x') (hp : R_t day s x t) : R_t day s x' t := by
  unfold R_t R_b at *
  rw [← t_eq_thr h, ← t_eq_s h (k := 0) (by omega), ← t_eq_s h (k := 3) (by omega), ← t_eq_s h (k := 4) (by omega), ← t_eq_s h (k := 5) (by omega), ← t_eq_s h (k := 6) (by omega), ← t_eq_s h (k := 7) (by omega), ← h.2]
  exact hp
theorem R_E {V : Nat → v_D} {S S' : w_S} {N : n_S} {a : Int} (hR : R_S V S N a) (h : E_S S S') : R_S V S' N a := by
  obtain ⟨a1, a2, a3, a4, a5, a6, a7, a8, a9, b1, b2, b3, b4⟩ := hR
  have sz : ∀ s, s < 8 → S'.1 s = S.1 s := fun s hs => (h.1 s hs).symm
  have tt : ∀ s i : Nat, 1 ≤ s → s < 8 → (i : Int) < S.1 s → t_eq s (w_t S s i) (w_t S' s i) := h.2.2.1
  refine ⟨⟨fun s hs => by rw [sz s (by omega)]; exact a1.1 s hs, by rw [sz 7 (by omega)]; exact a1.2⟩, by rw [← h.2.2.2]; exact a2, fun i hi => ?_, fun i hi => ?_, fun s i s2 s6 hi => ?_, fun i hi => ?_, fun k hk => ?_, fun k i hk hi => ?_, fun c i hc hi => ?_, fun s i s1 s8 hi => ?_, fun s i s7 hi => ?_, fun k hk => ?_, ?_⟩
  · rw [sz 0 (by omega)] at hi
    rw [← h.2.1 i hi]; exact a3 i hi
  · rw [sz 1 (by omega)] at hi
    exact R_p_eq (tt 1 i (by omega) (by omega) hi) (a4 i hi)
  · rw [sz s (by omega)] at hi
    rw [← h.2.2.2]
    exact R_t_eq (tt s i (by omega) (by omega) hi) (a5 s i s2 s6 hi)
  · rw [sz 3 (by omega)] at hi
    rw [← t_eq_s (tt 3 i (by omega) (by omega) hi) (k := 11) (by omega)]; exact a6 i hi
  · rw [sz 7 (by omega)] at hk
    have e := tt 7 k (by omega) (by omega) hk
    have r := a7 k hk
    unfold R_sale at *
    rw [← t_eq_s e (k := 4) (by omega), ← t_eq_s e (k := 5) (by omega), ← t_eq_s e (k := 8) (by omega), ← t_eq_s e (k := 11) (by omega), ← t_eq_s e (k := 12) (by omega), ← t_eq_s e (k := 13) (by omega), ← e.2]
    exact r
  · rw [sz 7 (by omega)] at hk
    rw [sz 6 (by omega)] at hi
    rw [← t_eq_s (tt 6 i (by omega) (by omega) hi) (k := 1) (by omega), ← t_eq_s (tt 7 k (by omega) (by omega) hk) (k := 1) (by omega)]; exact a8 k i hk hi
  · rw [sz 2 (by omega)] at hc
    rw [sz 4 (by omega)] at hi
    rw [← t_eq_s (tt 4 i (by omega) (by omega) hi) (k := 1) (by omega), ← t_eq_s (tt 2 c (by omega) (by omega) hc) (k := 1) (by omega)]; exact a9 c i hc hi
  · rw [sz s s8] at hi
    rw [← t_eq_s (tt s i s1 s8 hi) (k := 1) (by omega)]; exact b1 s i s1 s8 hi
  · rw [sz s (by omega)] at hi
    exact b2 s i s7 hi
  · rw [sz 7 (by omega)] at hk
    exact b3 k hk
  · rw [sz 0 (by omega), sz 1 (by omega), sz 2 (by omega), sz 3 (by omega), sz 4 (by omega), sz 5 (by omega), sz 6 (by omega), sz 7 (by omega)]; exact b4
