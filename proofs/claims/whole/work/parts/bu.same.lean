/-! two VIEWS over the same ENTRIES -/
theorem E_w0 {A A' : w_S} {dr dr' : Int} : E_S (w_0 A dr) (w_0 A' dr') := by
  refine ⟨fun s hs => ?_, fun i hi => ?_, fun s i s1 s8 hi => ?_, rfl⟩
  · show w_sz0 A.1 s = w_sz0 A'.1 s
    unfold w_sz0
    by_cases c : s < 2
    · rw [if_pos c, if_pos c]
    · rw [if_neg c, if_neg c, if_pos hs, if_pos hs]
  · have hi : (i : Int) < 1 := hi
    have : i = 0 := by omega
    subst this
    show s_fu A.2.1 0 w_land 0 = s_fu A'.2.1 0 w_land 0
    rw [s_fu_eq, s_fu_eq]
  · have hi : (i : Int) < w_sz0 A.1 s := hi
    unfold w_sz0 at hi
    by_cases c : s < 2
    · rw [if_pos c] at hi
      have es : s = 1 := by omega
      have ei : i = 0 := by omega
      subst es ei
      have e1 : w_t (w_0 A dr) 1 0 = (t_crown (t_new 7165912515837165568 dr 0 (A.2.2.1 0).1), [], []) := (s_fu_eq : s_fu A.2.2.1 0 _ 0 = _)
      have e2 : w_t (w_0 A' dr') 1 0 = (t_crown (t_new 7165912515837165568 dr' 0 (A'.2.2.1 0).1), [], []) := (s_fu_eq : s_fu A'.2.2.1 0 _ 0 = _)
      rw [e1, e2]
      refine ⟨fun k k1 k2 k3 k4 => ?_, rfl⟩
      have : k = 0 ∨ k = 1 ∨ k = 2 ∨ k = 3 ∨ k = 4 ∨ k = 5 ∨ k = 6 ∨ k = 7 ∨ k = 8 ∨ k = 12 ∨ k = 13 := by
        have : k ≠ 11 := fun z => k4 z rfl
        omega
      rcases this with rfl | rfl | rfl | rfl | rfl | rfl | rfl | rfl | rfl | rfl | rfl <;> rfl
    · rw [if_neg c, if_pos s8] at hi
      omega
theorem v_srt_pw {D : Int → Int} {L : List Int} (h : v_srt D L) : (L.map D).Pairwise (· ≤ ·) := by
  rw [List.pairwise_map, List.pairwise_iff_getElem]
  intro i j hi hj hij
  have := h i j (by omega) hj
  unfold v_at at this
  rw [List.getElem?_eq_getElem hi, List.getElem?_eq_getElem hj] at this
  exact this
theorem E_view {V : Nat → v_D} {U : Nat → Prop} {I : Int → w_S → Prop} (hI : ∀ a S, I a S → R_z S ∧ w_rg S ∧ w_un S ∧ ∀ k : Nat, (k : Int) < S.1 7 → 0 ≤ r_get (w_t S 7 k).2.1 0 ∧ r_get (w_t S 7 k).2.1 0 < S.1 0) (hst : ∀ a S d X, I a S → U d → v_ok (V d) → S.2.2.2 ≤ (V d).1 4 → X_perf V S d a X → I (a + 1) X.2) {er : Nat → Nat} {cm od tg : Nat → Int} {known n day : Int} (hn : 0 ≤ n) (ht : ∀ i : Nat, (i : Int) < n → od i = 0 ∨ ((od i = 222 ∨ od i = 223) ∧ 1 ≤ tg i ∧ tg i ≤ i)) (hq : ∀ i : Nat, (i : Int) < n → od i ≠ 222 → U (er i) ∧ v_ok (V (er i)) ∧ (((V (er i)).2.2.2.1).length : Int) = (V (er i)).1 15) {A A' : w_S} {dr dr' : Int} (h0 : I 1 (w_0 A dr)) {S T : w_S} {F F' : Nat → Int} {c c' : Int} (h1 : y_run V er cm od tg known n day (w_0 A dr) S F c) (h2 : y_run V er cm od tg known n day (w_0 A' dr') T F' c') : E_S S T ∧ F = F' ∧ c = c' := by
  unfold y_run at h1 h2
  have yT := y_x_T (cm := cm) (od := od) (tg := tg) (known := known) hn ht
  have mem : ∀ y ∈ y_L V er cm od tg known n day, (0 ≤ y ∧ y < n) ∧ od ((y_x cm od tg known n).2 y.toNat).toNat ≠ 222 ∧ (0 ≤ (y_x cm od tg known n).2 y.toNat ∧ (y_x cm od tg known n).2 y.toNat < n) := fun y hy => by
    unfold y_L at hy
    have a1 := v_ln_mem hy
    have a2 := v_ln_mem2 hy
    have k := yT y.toNat (by omega)
    exact ⟨by omega, k.2 a2.1, k.1⟩
  refine E_run hI hst _ (fun q hq' => ?_) ?_ E_w0 h0 h1 h2
  · obtain ⟨y, y1, y2⟩ := List.mem_map.mp hq'
    have m := mem y y1
    rw [← y2]
    exact hq _ (by omega) m.2.1
  · have e : ((y_L V er cm od tg known n day).map (fun y => (er ((y_x cm od tg known n).2 y.toNat).toNat, y.toNat))).map (fun q => (V q.1).1 4) = (y_L V er cm od tg known n day).map (y_D V er (y_x cm od tg known n).2) := by
      rw [List.map_map]; rfl
    rw [e, List.pairwise_cons]
    refine ⟨fun x hx => ?_, v_srt_pw (by unfold y_L; exact v_ln_srt)⟩
    obtain ⟨y, y1, y2⟩ := List.mem_map.mp hx
    have m := mem y y1
    have k := (hq _ (show ((((y_x cm od tg known n).2 y.toNat).toNat : Nat) : Int) < n by omega) m.2.1).2.1.2.2.2.1.1.1
    show (0 : Int) ≤ x
    rw [← y2]
    exact k
