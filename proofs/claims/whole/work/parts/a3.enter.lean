/-! enter: it makes a new Deed, seven cells -/
def d_row (M : e_M) (t k j : Nat) : e_M := e_up (e_nw M (t + j) (fun _ => 0)) t k ((t + j : Nat) : Int)
def d_mk (M : e_M) (t : Nat) : e_M := d_row (d_row (d_row (d_row (d_row (d_row M t 5 1) t 6 2) t 13 3) t 14 4) t 16 5) t 17 6
def d_shp (sh : Nat → Nat × Nat) (t : Nat) : Prop := (sh t = (2, 19) ∧ sh (t + 1) = (23, 8) ∧ sh (t + 2) = (20, 8) ∧ sh (t + 3) = (23, 6)) ∧ sh (t + 4) = (23, 6) ∧ sh (t + 5) = (20, 12) ∧ sh (t + 6) = (20, 12)
theorem e_Deed {sh : Nat → Nat × Nat} {rm : Nat × Nat × Nat} {t : Nat} {M : e_M} {Q : Option e_V → e_G → Prop} (hs : d_shp sh t) (ht : t + 7 ≤ 1000000) (hr : 1 ≤ rm.1) (h1 : 6 ≤ rm.2.1) (h2 : 52 ≤ rm.2.2) (hQ : Q none (d_mk M t, t + 7)) : e_T sh YX2_init rm 0 (e_loc 1 [.inr (.inr (.inl (t : Int)))]) [] (M, t + 1) (0, 0) Q := by
  obtain ⟨⟨s0, s1, s2, s3⟩, s4, s5, s6⟩ := hs
  have l0 : ∀ ls : List e_V, ls = e_loc 1 [.inr (.inr (.inl (t : Int)))] → ls[(0 : Fin 4).val]? = some (.inr (.inr (.inl (t : Int)))) := fun ls e => by rw [e]; rfl
  have tn : ((t : Nat) : Int).toNat = t := by omega
  refine e_aload_n (pc := 0) (n := 0) (e_dx DX2_init_0 0 rfl) rfl (by omega) ?_
  refine e_obj (pc := 1) (e_dx DX2_init_0 1 rfl) cX2_3 ow1 ow2 (by omega) rfl hr ?_
  refine e_aload_n (pc := 4) (n := 0) (e_dx DX2_init_0 2 rfl) rfl (by omega) ?_
  refine e_bipush (pc := 5) (e_dx DX2_init_0 3 rfl) ⟨by decide, by decide⟩ ?_
  refine e_newJ (pc := 7) (N := 8) (e_dx DX2_init_0 4 rfl) awJ s1 (by decide) (by show t + 1 < 1000000; omega) (by show 0 + 1 ≤ rm.2.1; omega) (by show 0 + 8 ≤ rm.2.2; omega) ?_
  refine e_putF (pc := 9) (kd := 2) (k := 5) (n := ((t + 1 : Nat) : Int)) (e_dx DX2_init_0 5 rfl) fX2_9 (fun q hq => by cases hq; exact ⟨rfl, rfl⟩) rfl rfl (fun e => by cases e) (by decide) (by omega) (by rw [tn]; omega) (by rw [tn, s0]) ?_
  rw [tn]
  refine e_aload_n (pc := 12) (n := 0) (e_dx DX2_init_0 6 rfl) rfl (by omega) ?_
  refine e_bipush (pc := 13) (e_dx DX2_init_0 7 rfl) ⟨by decide, by decide⟩ ?_
  refine e_newI (pc := 15) (N := 8) (e_dx DX2_init_0 8 rfl) awI s2 (by decide) (by show t + 2 < 1000000; omega) (by show 1 + 1 ≤ rm.2.1; omega) (by show 8 + 8 ≤ rm.2.2; omega) ?_
  refine e_putF (pc := 17) (kd := 2) (k := 6) (n := ((t + 2 : Nat) : Int)) (e_dx DX2_init_0 9 rfl) fX2_15 (fun q hq => by cases hq; exact ⟨rfl, rfl⟩) rfl rfl (fun e => by cases e) (by decide) (by omega) (by rw [tn]; omega) (by rw [tn, s0]) ?_
  rw [tn]
  refine e_aload_n (pc := 20) (n := 0) (e_dx DX2_init_0 10 rfl) rfl (by omega) ?_
  refine e_bipush (pc := 21) (e_dx DX2_init_0 11 rfl) ⟨by decide, by decide⟩ ?_
  refine e_newJ (pc := 23) (N := 6) (e_dx DX2_init_0 12 rfl) awJ s3 (by decide) (by show t + 3 < 1000000; omega) (by show 2 + 1 ≤ rm.2.1; omega) (by show 16 + 6 ≤ rm.2.2; omega) ?_
  refine e_putF (pc := 25) (kd := 2) (k := 13) (n := ((t + 3 : Nat) : Int)) (e_dx DX2_init_0 13 rfl) fX2_19 (fun q hq => by cases hq; exact ⟨rfl, rfl⟩) rfl rfl (fun e => by cases e) (by decide) (by omega) (by rw [tn]; omega) (by rw [tn, s0]) ?_
  rw [tn]
  refine e_aload_n (pc := 28) (n := 0) (e_dx DX2_init_0 14 rfl) rfl (by omega) ?_
  refine e_bipush (pc := 29) (e_dx DX2_init_0 15 rfl) ⟨by decide, by decide⟩ ?_
  refine e_newJ (pc := 31) (N := 6) (e_dx DX2_init_0 16 rfl) awJ s4 (by decide) (by show t + 4 < 1000000; omega) (by show 3 + 1 ≤ rm.2.1; omega) (by show 22 + 6 ≤ rm.2.2; omega) ?_
  refine e_putF (pc := 33) (kd := 2) (k := 14) (n := ((t + 4 : Nat) : Int)) (e_dx DX2_init_0 17 rfl) fX2_22 (fun q hq => by cases hq; exact ⟨rfl, rfl⟩) rfl rfl (fun e => by cases e) (by decide) (by omega) (by rw [tn]; omega) (by rw [tn, s0]) ?_
  rw [tn]
  refine e_aload_n (pc := 36) (n := 0) (e_dx DX2_init_0 18 rfl) rfl (by omega) ?_
  refine e_bipush (pc := 37) (e_dx DX2_init_0 19 rfl) ⟨by decide, by decide⟩ ?_
  refine e_newI (pc := 39) (N := 12) (e_dx DX2_init_0 20 rfl) awI s5 (by decide) (by show t + 5 < 1000000; omega) (by show 4 + 1 ≤ rm.2.1; omega) (by show 28 + 12 ≤ rm.2.2; omega) ?_
  refine e_putF (pc := 41) (kd := 2) (k := 16) (n := ((t + 5 : Nat) : Int)) (e_dx DX2_init_0 21 rfl) fX2_25 (fun q hq => by cases hq; exact ⟨rfl, rfl⟩) rfl rfl (fun e => by cases e) (by decide) (by omega) (by rw [tn]; omega) (by rw [tn, s0]) ?_
  rw [tn]
  refine e_aload_n (pc := 44) (n := 0) (e_dx DX2_init_0 22 rfl) rfl (by omega) ?_
  refine e_bipush (pc := 45) (e_dx DX2_init_0 23 rfl) ⟨by decide, by decide⟩ ?_
  refine e_newI (pc := 47) (N := 12) (e_dx DX2_init_0 24 rfl) awI s6 (by decide) (by show t + 6 < 1000000; omega) (by show 5 + 1 ≤ rm.2.1; omega) (by show 40 + 12 ≤ rm.2.2; omega) ?_
  refine e_putF (pc := 49) (kd := 2) (k := 17) (n := ((t + 6 : Nat) : Int)) (e_dx DX2_init_0 25 rfl) fX2_28 (fun q hq => by cases hq; exact ⟨rfl, rfl⟩) rfl rfl (fun e => by cases e) (by decide) (by omega) (by rw [tn]; omega) (by rw [tn, s0]) ?_
  rw [tn]
  exact e_vret (pc := 52) (e_dx DX2_init_0 26 rfl) rfl h1 h2 hQ
/-- what enter does: x its answer, then the memory and how much is made -/
def W_enter (M : e_M) (t : Nat) (P : Int → e_M → Nat → Prop) : Prop :=
  WX11_readTape M (fun M1 => WX7_readEntry (M1 0 8).toNat 2 (M1 0 7) M1 (fun r M2 => ∀ M3, M3 = e_up M2 0 5 (M2 10 7) → (r = 0 → P (e_w32 (-1 - M3 10 8)) M3 t) ∧ (¬ r = 0 → (150 ≤ M3 0 7 → P (-1000) M3 t) ∧ (M3 0 7 < 150 → 0 ≤ M3 0 7 ∧ ∀ M4, M4 = e_up M3 (M3 0 8).toNat 0 (M3 0 2) → ∀ M5, M5 = e_up M4 2 (M4 0 7).toNat (M4 0 8) → ∀ M6, M6 = e_up M5 0 7 (e_w32 (M5 0 7 + 1)) → ∀ M7, M7 = e_up (d_mk (e_nw M6 t (e_df 2)) t) 0 8 t → P (M7 0 7) M7 (t + 7)))))
theorem t_f {sh : Nat → Nat × Nat} {M : e_M} {t a : Nat} {kd n k : Nat} {d : Nat × Nat × Nat × Nat} (ty : f_Ty sh M t) (ha : a < t) (hs : sh a = (kd, n)) (h1 : kd < 13) (h2 : k < e_num kd) (h3 : e_tg kd k = 4) (hd : f_ft kd k = d) : f_fc sh t M a k d := by
  have := (ty.2.1 a ha).1 k (by rw [hs]; exact h1) (by rw [hs]; exact h2) (by rw [hs]; exact h3)
  rw [hs] at this
  rw [← hd]
  exact this
theorem t_11 {sh : Nat → Nat × Nat} {M : e_M} {t : Nat} (h : gl_C0 sh t) (ty : f_Ty sh M t) : (M 0 9 = 10 ∧ sh 10 = (7, 12)) ∧ (M 0 6 = 2 ∧ sh 2 = (32, 150)) ∧ 0 ≤ M 0 8 ∧ sh (M 0 8).toNat = (2, 19) ∧ (M 0 8).toNat < t := by
  have h0 : 0 < t := by have := h.2.2.2; omega
  have a9 := t_f (k := 9) ty h0 h.1 (by decide) (by decide) (by decide) rfl
  have a6 := t_f (k := 6) ty h0 h.1 (by decide) (by decide) (by decide) rfl
  have a8 := t_f (k := 8) ty h0 h.1 (by decide) (by decide) (by decide) rfl
  exact ⟨⟨a9.1, a9.2.1⟩, ⟨a6.1, a6.2.1⟩, a8⟩
theorem f_Ty_num {sh : Nat → Nat × Nat} {M : e_M} {t a k : Nat} {v : Int} (ty : f_Ty sh M t) (ha : a < t) (h1 : (sh a).1 < 13 → ¬ e_tg (sh a).1 k = 4) (h2 : (sh a).1 < 30 ∨ 43 ≤ (sh a).1) : f_Ty sh (e_up M a k v) t :=
  f_Ty.put ty ha (fun c d => absurd d (h1 c)) (fun c d => by omega)
/-- the new Deed's references are what they must be -/
theorem d_mk_old {M : e_M} {t a : Nat} (h : a < t ∨ t + 6 < a) : d_mk M t a = M a := by
  unfold d_mk d_row
  rw [e_up_row (by omega), e_nw_old (by omega), e_up_row (by omega), e_nw_old (by omega), e_up_row (by omega), e_nw_old (by omega), e_up_row (by omega), e_nw_old (by omega), e_up_row (by omega), e_nw_old (by omega), e_up_row (by omega), e_nw_old (by omega)]
theorem d_mk_t {M : e_M} {t k : Nat} : d_mk M t t k = if k = 17 then ((t + 6 : Nat) : Int) else if k = 16 then ((t + 5 : Nat) : Int) else if k = 14 then ((t + 4 : Nat) : Int) else if k = 13 then ((t + 3 : Nat) : Int) else if k = 6 then ((t + 2 : Nat) : Int) else if k = 5 then ((t + 1 : Nat) : Int) else M t k := by
  unfold d_mk d_row
  rw [e_up_at, e_nw_old (by omega), e_up_at, e_nw_old (by omega), e_up_at, e_nw_old (by omega), e_up_at, e_nw_old (by omega), e_up_at, e_nw_old (by omega), e_up_at, e_nw_old (by omega)]
theorem f_fc_up {sh : Nat → Nat × Nat} {t t' : Nat} {M M' : e_M} {a k : Nat} {d : Nat × Nat × Nat × Nat} (h : f_fc sh t M a k d) (e : M' a k = M a k) (ht : t ≤ t') : f_fc sh t' M' a k d := by
  unfold f_fc at h ⊢
  rw [e]
  split at h
  · exact ⟨h.1, h.2.1, by omega⟩
  · exact ⟨h.1, h.2.1, by omega⟩
  · exact ⟨h.1, h.2.1, by omega⟩
theorem f_Ty_deed {sh : Nat → Nat × Nat} {M : e_M} {t : Nat} {d : Nat → Int} (ty : f_Ty sh M t) (hs : d_shp sh t) (ht : t + 7 ≤ 1000000) : f_Ty sh (d_mk (e_nw M t d) t) (t + 7) := by
  obtain ⟨y1, y2, y3⟩ := ty
  obtain ⟨⟨s0, s1, s2, s3⟩, s4, s5, s6⟩ := hs
  refine ⟨ht, fun a ha => ?_, fun j hj => ⟨(y3 j hj).1, fun k hk => ?_⟩⟩
  · by_cases c : a < t
    · have e : d_mk (e_nw M t d) t a = M a := by rw [d_mk_old (by omega), e_nw_old (by omega)]
      refine ⟨fun k k1 k2 k3 => f_fc_up ((y2 a c).1 k k1 k2 k3) (by rw [e]) (by omega), fun k k1 k2 k3 => ?_⟩
      rw [e]
      have := (y2 a c).2 k k1 k2 k3
      exact ⟨this.1, this.2.1, by omega⟩
    · by_cases c0 : a = t
      · subst c0
        refine ⟨fun k k1 k2 k3 => ?_, fun k k1 => by rw [s0] at k1; omega⟩
        rw [s0] at k2 k3 ⊢
        have hk : k = 5 ∨ k = 6 ∨ k = 13 ∨ k = 14 ∨ k = 16 ∨ k = 17 := by
          have hd : ∀ k, k < 19 → e_tg 2 k = 4 → k = 5 ∨ k = 6 ∨ k = 13 ∨ k = 14 ∨ k = 16 ∨ k = 17 := by decide
          exact hd k k2 k3
        rcases hk with rfl | rfl | rfl | rfl | rfl | rfl
        · exact ⟨by rw [d_mk_t]; rfl, s1, by have e1 : (f_ft ((2, 19) : Nat × Nat).1 5).2.2.2 = 1 := rfl; omega⟩
        · exact ⟨by rw [d_mk_t]; rfl, s2, by have e1 : (f_ft ((2, 19) : Nat × Nat).1 6).2.2.2 = 2 := rfl; omega⟩
        · exact ⟨by rw [d_mk_t]; rfl, s3, by have e1 : (f_ft ((2, 19) : Nat × Nat).1 13).2.2.2 = 3 := rfl; omega⟩
        · exact ⟨by rw [d_mk_t]; rfl, s4, by have e1 : (f_ft ((2, 19) : Nat × Nat).1 14).2.2.2 = 4 := rfl; omega⟩
        · exact ⟨by rw [d_mk_t]; rfl, s5, by have e1 : (f_ft ((2, 19) : Nat × Nat).1 16).2.2.2 = 5 := rfl; omega⟩
        · exact ⟨by rw [d_mk_t]; rfl, s6, by have e1 : (f_ft ((2, 19) : Nat × Nat).1 17).2.2.2 = 6 := rfl; omega⟩
      · have hk : (sh a).1 = 20 ∨ (sh a).1 = 23 := by
          have : a = t + 1 ∨ a = t + 2 ∨ a = t + 3 ∨ a = t + 4 ∨ a = t + 5 ∨ a = t + 6 := by omega
          rcases this with rfl | rfl | rfl | rfl | rfl | rfl
          · rw [s1]; exact Or.inr rfl
          · rw [s2]; exact Or.inl rfl
          · rw [s3]; exact Or.inr rfl
          · rw [s4]; exact Or.inr rfl
          · rw [s5]; exact Or.inl rfl
          · rw [s6]; exact Or.inl rfl
        exact ⟨fun k k1 => by omega, fun k k1 => by omega⟩
  · rw [d_mk_old (by omega), e_nw_old (by omega)]
    exact (y3 j hj).2 k hk
section ENTER
variable {sh : Nat → Nat × Nat} {rm : Nat × Nat × Nat} {cs : Nat × Nat} {Q : Option e_V → e_G → Prop} {i L t : Nat} {M : e_M} {ls : List e_V}
theorem e_enter {P : Int → e_M → Nat → Prop} (h0 : gl_C0 sh t) (ty : f_Ty sh M t) (hs : d_shp sh t) (ht : t + 7 ≤ 1000000) (hr : 40 ≤ rm.1) (h1 : 7 ≤ rm.2.1) (h2 : 71 ≤ rm.2.2) (hW : W_enter M t P) (hQ : ∀ x M1 t1, t ≤ t1 → f_Ty sh M1 t1 → P x M1 t1 → Q (some (.inl x)) (M1, t1)) : e_T sh YX11_enter rm 0 (e_loc 2 [.inr (.inr (.inl 0))]) [] (M, t) (0, 0) Q := by
  have k11 : (sh ((0 : Int).toNat)).1 = 11 := by show (sh 0).1 = 11; rw [h0.1]
  unfold W_enter at hW
  refine e_aload_n (pc := 0) (n := 0) (e_dx DX11_enter_0 0 rfl) rfl (by omega) ?_
  refine e_callV (Yc := YX11_readTape) (rc := (20, 0, 0)) (a := 0) (n := 0) (vs := []) (e_dx DX11_enter_0 1 rfl) mwX11_readTape vwX11_readTape cX11_92 (by omega) k11 rfl ⟨Nat.le_of_ble_eq_true rfl, Nat.le_of_ble_eq_true rfl⟩ (by show 20 + 1 ≤ rm.1; omega) (by show 0 + 0 ≤ rm.2.1; omega) (by show 0 + 0 ≤ rm.2.2; omega) (by decide) ?_
  refine f_use TX11_readTape (ar := .inr (.inr (.inl (11, 15, 0))) :: ([] : List Int).map (fun x => (.inl x : f_V))) (R := fun v M1 => v = none ∧ WX7_readEntry (M1 0 8).toNat 2 (M1 0 7) M1 (fun r M2 => ∀ M3, M3 = e_up M2 0 5 (M2 10 7) → (r = 0 → P (e_w32 (-1 - M3 10 8)) M3 t) ∧ (¬ r = 0 → (150 ≤ M3 0 7 → P (-1000) M3 t) ∧ (M3 0 7 < 150 → 0 ≤ M3 0 7 ∧ ∀ M4, M4 = e_up M3 (M3 0 8).toNat 0 (M3 0 2) → ∀ M5, M5 = e_up M4 2 (M4 0 7).toNat (M4 0 8) → ∀ M6, M6 = e_up M5 0 7 (e_w32 (M5 0 7 + 1)) → ∀ M7, M7 = e_up (d_mk (e_nw M6 t (e_df 2)) t) 0 8 t → P (M7 0 7) M7 (t + 7))))) rfl rfl ?_ (by show _ ≤ 20; exact Nat.le_of_ble_eq_true rfl) (Nat.zero_le _) (Nat.zero_le _) (gl_tv1 h0) ty (fun M hx => by cases hx.1) (fun w M1 ty1 hR => ?_)
  · have e : (fun M1 : e_M => (none : Option f_V) = none ∧ WX7_readEntry (M1 0 8).toNat 2 (M1 0 7) M1 (fun r M2 => ∀ M3, M3 = e_up M2 0 5 (M2 10 7) → (r = 0 → P (e_w32 (-1 - M3 10 8)) M3 t) ∧ (¬ r = 0 → (150 ≤ M3 0 7 → P (-1000) M3 t) ∧ (M3 0 7 < 150 → 0 ≤ M3 0 7 ∧ ∀ M4, M4 = e_up M3 (M3 0 8).toNat 0 (M3 0 2) → ∀ M5, M5 = e_up M4 2 (M4 0 7).toNat (M4 0 8) → ∀ M6, M6 = e_up M5 0 7 (e_w32 (M5 0 7 + 1)) → ∀ M7, M7 = e_up (d_mk (e_nw M6 t (e_df 2)) t) 0 8 t → P (M7 0 7) M7 (t + 7))))) = (fun M1 => WX7_readEntry (M1 0 8).toNat 2 (M1 0 7) M1 (fun r M2 => ∀ M3, M3 = e_up M2 0 5 (M2 10 7) → (r = 0 → P (e_w32 (-1 - M3 10 8)) M3 t) ∧ (¬ r = 0 → (150 ≤ M3 0 7 → P (-1000) M3 t) ∧ (M3 0 7 < 150 → 0 ≤ M3 0 7 ∧ ∀ M4, M4 = e_up M3 (M3 0 8).toNat 0 (M3 0 2) → ∀ M5, M5 = e_up M4 2 (M4 0 7).toNat (M4 0 8) → ∀ M6, M6 = e_up M5 0 7 (e_w32 (M5 0 7 + 1)) → ∀ M7, M7 = e_up (d_mk (e_nw M6 t (e_df 2)) t) 0 8 t → P (M7 0 7) M7 (t + 7))))) := funext (fun M1 => propext ⟨fun h => h.2, fun h => ⟨rfl, h⟩⟩)
    exact (congrArg (WX11_readTape M) e).mpr hW
  obtain ⟨ew, hR⟩ := hR
  refine ⟨(by rw [ew]; intro h; cases h), fun _ => ?_⟩
  rw [ew]
  obtain ⟨⟨b9, g9⟩, ⟨b6, g6⟩, b8, g8, l8⟩ := t_11 h0 ty1
  obtain ⟨d, ed⟩ : ∃ d : Nat, M1 0 8 = (d : Int) := ⟨(M1 0 8).toNat, by omega⟩
  have dn : ((d : Nat) : Int).toNat = d := by omega
  rw [ed, dn] at g8 l8
  rw [ed, dn] at hR
  show e_T sh YX11_enter rm 4 (e_loc 2 [.inr (.inr (.inl 0))]) [] (M1, t) (0, 0) Q
  refine e_aload_n (pc := 4) (n := 0) (e_dx DX11_enter_0 2 rfl) rfl (by omega) ?_
  refine e_getf (pc := 5) (a := 0) (e_dx DX11_enter_0 3 rfl) fX11_46 (by omega) k11 ?_
  show e_T sh YX11_enter rm 8 (e_loc 2 [.inr (.inr (.inl 0))]) [.inr (.inr (.inl (M1 0 9)))] (M1, t) (0, 0) Q
  rw [b9]
  refine e_aload_n (pc := 8) (n := 0) (e_dx DX11_enter_0 4 rfl) rfl (by omega) ?_
  refine e_getf (pc := 9) (a := 0) (e_dx DX11_enter_0 5 rfl) fX11_39 (by omega) k11 ?_
  show e_T sh YX11_enter rm 12 (e_loc 2 [.inr (.inr (.inl 0))]) [.inr (.inr (.inl (M1 0 8))), .inr (.inr (.inl 10))] (M1, t) (0, 0) Q
  refine e_aload_n (pc := 12) (n := 0) (e_dx DX11_enter_0 6 rfl) rfl (by omega) ?_
  refine e_getf (pc := 13) (a := 0) (e_dx DX11_enter_0 7 rfl) fX11_31 (by omega) k11 ?_
  show e_T sh YX11_enter rm 16 (e_loc 2 [.inr (.inr (.inl 0))]) [.inr (.inr (.inl (M1 0 6))), .inr (.inr (.inl (M1 0 8))), .inr (.inr (.inl 10))] (M1, t) (0, 0) Q
  rw [b6, ed]
  refine e_aload_n (pc := 16) (n := 0) (e_dx DX11_enter_0 8 rfl) rfl (by omega) ?_
  refine e_getf (pc := 17) (a := 0) (e_dx DX11_enter_0 9 rfl) fX11_35 (by omega) k11 ?_
  show e_T sh YX11_enter rm 20 (e_loc 2 [.inr (.inr (.inl 0))]) ([.inr (.inr (.inl (d : Int))), .inr (.inr (.inl 2)), .inl (M1 0 7)].reverse ++ .inr (.inr (.inl 10)) :: []) (M1, t) (0, 0) Q
  refine e_callV (Yc := YX7_readEntry) (rc := (20, 0, 0)) (a := 10) (n := 3) (e_dx DX11_enter_0 10 rfl) mwX7_readEntry vwX7_readEntry cX11_95 (by omega) (by show (sh 10).1 = 7; rw [g9]) rfl ⟨Nat.le_of_ble_eq_true rfl, Nat.le_of_ble_eq_true rfl⟩ (by show 20 + 1 ≤ rm.1; omega) (by show 0 + 0 ≤ rm.2.1; omega) (by show 0 + 0 ≤ rm.2.2; omega) (by decide) ?_
  refine f_use TX7_readEntry (ar := [.inr (.inr (.inl (7, 12, 10))), .inr (.inr (.inl (2, 19, d))), .inr (.inr (.inl (32, 150, 2))), .inl (M1 0 7)]) (R := gl_rI (fun r M2 => ∀ M3, M3 = e_up M2 0 5 (M2 10 7) → (r = 0 → P (e_w32 (-1 - M3 10 8)) M3 t) ∧ (¬ r = 0 → (150 ≤ M3 0 7 → P (-1000) M3 t) ∧ (M3 0 7 < 150 → 0 ≤ M3 0 7 ∧ ∀ M4, M4 = e_up M3 (M3 0 8).toNat 0 (M3 0 2) → ∀ M5, M5 = e_up M4 2 (M4 0 7).toNat (M4 0 8) → ∀ M6, M6 = e_up M5 0 7 (e_w32 (M5 0 7 + 1)) → ∀ M7, M7 = e_up (d_mk (e_nw M6 t (e_df 2)) t) 0 8 t → P (M7 0 7) M7 (t + 7))))) rfl rfl (by exact hR) (by show _ ≤ 20; exact Nat.le_of_ble_eq_true rfl) (Nat.zero_le _) (Nat.zero_le _) (fun v hv => ?_) ty1 (fun M hx => False.elim hx) (fun w2 M2 ty2 hR2 => ?_)
  · have t0 := h0.2.2.2
    simp only [List.mem_cons, List.not_mem_nil, or_false] at hv
    rcases hv with rfl | rfl | rfl | rfl
    · exact Or.inl ⟨by decide, g9, by show 10 < t; omega⟩
    · exact Or.inl ⟨(by decide : (2 : Nat) < 100), g8, l8⟩
    · exact Or.inl ⟨by decide, g6, by show 2 < t; omega⟩
    · trivial
  obtain ⟨r, ew2, hR3⟩ := gl_I hR2
  refine ⟨(by rw [ew2]; intro h; cases h), fun _ => ?_⟩
  rw [ew2]
  have t0 := h0.2.2.2
  obtain ⟨⟨c9, -⟩, -⟩ := t_11 h0 ty2
  have ty3 : f_Ty sh (e_up M2 0 5 (M2 10 7)) t := f_Ty_num ty2 (by omega) (fun _ => by rw [h0.1]; decide) (Or.inl (by rw [h0.1]; decide))
  have hR4 := hR3 _ rfl
  generalize e3 : e_up M2 0 5 (M2 10 7) = M3 at ty3 hR4
  clear hR hR2 hR3
  show e_T sh YX11_enter rm 23 (e_loc 2 [.inr (.inr (.inl 0))]) [.inl r] (M2, t) (0, 0) Q
  refine e_istore_n (pc := 23) (n := 1) (e_dx DX11_enter_0 11 rfl) (Nat.le_of_ble_eq_true rfl) ?_
  show e_T sh YX11_enter rm 24 [.inr (.inr (.inl 0)), .inl r] [] (M2, t) (0, 0) Q
  refine e_aload_n (pc := 24) (n := 0) (e_dx DX11_enter_0 12 rfl) rfl (by omega) ?_
  refine e_aload_n (pc := 25) (n := 0) (e_dx DX11_enter_0 13 rfl) rfl (by omega) ?_
  refine e_getf (pc := 26) (a := 0) (e_dx DX11_enter_0 14 rfl) fX11_46 (by omega) k11 ?_
  show e_T sh YX11_enter rm 29 [.inr (.inr (.inl 0)), .inl r] [.inr (.inr (.inl (M2 0 9))), .inr (.inr (.inl 0))] (M2, t) (0, 0) Q
  rw [c9]
  refine e_getf (pc := 29) (a := 10) (e_dx DX11_enter_0 15 rfl) fX11_99 (by omega) (by show (sh 10).1 = 7; rw [g9]) ?_
  refine e_putf (pc := 32) (a := 0) (kd := 11) (k := 5) (n := M2 10 7) (e_dx DX11_enter_0 16 rfl) fX11_26 (fun q hq => by cases hq; rfl) rfl (fun e => by cases e) (by decide) (by omega) (by decide) k11 ?_
  show e_T sh YX11_enter rm 35 [.inr (.inr (.inl 0)), .inl r] [] (e_up M2 0 5 (M2 10 7), t) (0, 0) Q
  rw [e3]
  obtain ⟨⟨q9, -⟩, ⟨q6, -⟩, q8, u8, v8⟩ := t_11 h0 ty3
  refine e_iload_n (pc := 35) (n := 1) (e_dx DX11_enter_0 17 rfl) rfl ?_
  refine e_if_ne (pc := 36) (tgt := 49) (e_dx DX11_enter_0 18 rfl) (by decide) (fun ne => ?_) (fun e => ?_)
  rotate_left
  · have hP := hR4.1 e
    refine e_iconst (pc := 39) (e_dx DX11_enter_0 19 rfl) ⟨by decide, by decide⟩ ?_
    refine e_aload_n (pc := 40) (n := 0) (e_dx DX11_enter_0 20 rfl) rfl (by omega) ?_
    refine e_getf (pc := 41) (a := 0) (e_dx DX11_enter_0 21 rfl) fX11_46 (by omega) k11 ?_
    show e_T sh YX11_enter rm 44 [.inr (.inr (.inl 0)), .inl r] [.inr (.inr (.inl (M3 0 9))), .inl (-1)] (M3, t) (0, 0) Q
    rw [q9]
    refine e_getf (pc := 44) (a := 10) (e_dx DX11_enter_0 22 rfl) fX11_102 (by omega) (by show (sh 10).1 = 7; rw [g9]) ?_
    refine e_isub (pc := 47) (x := -1) (y := M3 10 8) (e_dx DX11_enter_0 23 rfl) ?_
    exact e_iret (pc := 48) (e_dx DX11_enter_0 24 rfl) rfl (Nat.zero_le _) (Nat.zero_le _) (hQ _ M3 t (Nat.le_refl _) ty3 hP)
  have hP := hR4.2 ne
  refine e_aload_n (pc := 49) (n := 0) (e_dx DX11_enter_0 25 rfl) rfl (by omega) ?_
  refine e_getf (pc := 50) (a := 0) (e_dx DX11_enter_0 26 rfl) fX11_35 (by omega) k11 ?_
  refine e_sipush (pc := 53) (e_dx DX11_enter_0 27 rfl) ⟨by decide, by decide⟩ ?_
  refine e_icmp_lt (pc := 56) (tgt := 63) (x := M3 0 7) (y := 150) (e_dx DX11_enter_0 28 rfl) (by decide) (fun lt => ?_) (fun ge => ?_)
  rotate_left
  · refine e_sipush (pc := 59) (e_dx DX11_enter_0 29 rfl) ⟨by decide, by decide⟩ ?_
    exact e_iret (pc := 62) (e_dx DX11_enter_0 30 rfl) rfl (Nat.zero_le _) (Nat.zero_le _) (hQ _ M3 t (Nat.le_refl _) ty3 (hP.1 ge))
  obtain ⟨n0, hP⟩ := hP.2 lt
  have hP4 := hP _ rfl
  have ty4 : f_Ty sh (e_up M3 (M3 0 8).toNat 0 (M3 0 2)) t := f_Ty_num ty3 v8 (fun _ => by rw [u8]; decide) (Or.inl (by rw [u8]; decide))
  refine e_aload_n (pc := 63) (n := 0) (e_dx DX11_enter_0 31 rfl) rfl (by omega) ?_
  refine e_getf (pc := 64) (a := 0) (e_dx DX11_enter_0 32 rfl) fX11_39 (by omega) k11 ?_
  show e_T sh YX11_enter rm 67 [.inr (.inr (.inl 0)), .inl r] [.inr (.inr (.inl (M3 0 8)))] (M3, t) (0, 0) Q
  refine e_aload_n (pc := 67) (n := 0) (e_dx DX11_enter_0 33 rfl) rfl (by omega) ?_
  refine e_getf (pc := 68) (a := 0) (e_dx DX11_enter_0 34 rfl) fX11_17 (by omega) k11 ?_
  refine e_putf (pc := 71) (a := M3 0 8) (kd := 2) (k := 0) (n := M3 0 2) (e_dx DX11_enter_0 35 rfl) fX11_105 (fun q hq => by cases hq; rfl) rfl (fun e => by cases e) (by decide) q8 (by omega) (by rw [u8]) ?_
  show e_T sh YX11_enter rm 74 [.inr (.inr (.inl 0)), .inl r] [] (e_up M3 (M3 0 8).toNat 0 (M3 0 2), t) (0, 0) Q
  have nz : (M3 0 8).toNat ≠ 0 := fun z => by rw [z, h0.1] at u8; cases u8
  have k40 : ∀ k, e_up M3 (M3 0 8).toNat 0 (M3 0 2) 0 k = M3 0 k := fun k => by rw [e_up_row (Ne.symm nz)]
  have a47 := k40 7
  have a48 := k40 8
  generalize e4 : e_up M3 (M3 0 8).toNat 0 (M3 0 2) = M4 at ty4 hP4 a47 a48
  clear hP
  obtain ⟨-, ⟨r6, x6⟩, r8, w8, z8⟩ := t_11 h0 ty4
  have hP5 := hP4 _ rfl
  have ty5 : f_Ty sh (e_up M4 2 (M4 0 7).toNat (M4 0 8)) t := f_Ty.put ty4 (by omega) (fun c d => by rw [x6] at c; omega) (fun _ _ => ⟨r8, by rw [w8, x6]; rfl, z8⟩)
  refine e_aload_n (pc := 74) (n := 0) (e_dx DX11_enter_0 36 rfl) rfl (by omega) ?_
  refine e_getf (pc := 75) (a := 0) (e_dx DX11_enter_0 37 rfl) fX11_31 (by omega) k11 ?_
  show e_T sh YX11_enter rm 78 [.inr (.inr (.inl 0)), .inl r] [.inr (.inr (.inl (M4 0 6)))] (M4, t) (0, 0) Q
  rw [r6]
  refine e_aload_n (pc := 78) (n := 0) (e_dx DX11_enter_0 38 rfl) rfl (by omega) ?_
  refine e_getf (pc := 79) (a := 0) (e_dx DX11_enter_0 39 rfl) fX11_35 (by omega) k11 ?_
  refine e_aload_n (pc := 82) (n := 0) (e_dx DX11_enter_1 0 rfl) rfl (by omega) ?_
  refine e_getf (pc := 83) (a := 0) (e_dx DX11_enter_1 1 rfl) fX11_39 (by omega) k11 ?_
  show e_T sh YX11_enter rm 86 [.inr (.inr (.inl 0)), .inl r] [.inr (.inr (.inl (M4 0 8))), .inl (M4 0 7), .inr (.inr (.inl 2))] (M4, t) (0, 0) Q
  refine e_aast (pc := 86) (a := 2) (i := M4 0 7) (v := M4 0 8) (kd := 32) (e_dx DX11_enter_1 2 rfl) (by omega) (by decide) (by show (sh 2).1 = 32; rw [x6]) (by decide) ⟨by omega, by show M4 0 7 < ((sh 2).2 : Int); rw [x6]; show M4 0 7 < 150; omega⟩ r8 (by rw [w8]) (by decide) ?_
  show e_T sh YX11_enter rm 87 [.inr (.inr (.inl 0)), .inl r] [] (e_up M4 2 (M4 0 7).toNat (M4 0 8), t) (0, 0) Q
  generalize e5 : e_up M4 2 (M4 0 7).toNat (M4 0 8) = M5 at ty5 hP5
  have hP6 := hP5 _ rfl
  have ty6 : f_Ty sh (e_up M5 0 7 (e_w32 (M5 0 7 + 1))) t := f_Ty_num ty5 (by omega) (fun _ => by rw [h0.1]; decide) (Or.inl (by rw [h0.1]; decide))
  refine e_aload_n (pc := 87) (n := 0) (e_dx DX11_enter_1 3 rfl) rfl (by omega) ?_
  refine e_dup (pc := 88) (e_dx DX11_enter_1 4 rfl) (fun x h => by cases h) ?_
  refine e_getf (pc := 89) (a := 0) (e_dx DX11_enter_1 5 rfl) fX11_35 (by omega) k11 ?_
  refine e_iconst (pc := 92) (e_dx DX11_enter_1 6 rfl) ⟨by decide, by decide⟩ ?_
  refine e_iadd (pc := 93) (x := M5 0 7) (y := 1) (e_dx DX11_enter_1 7 rfl) ?_
  refine e_putf (pc := 94) (a := 0) (kd := 11) (k := 7) (n := e_w32 (M5 0 7 + 1)) (e_dx DX11_enter_1 8 rfl) fX11_35 (fun q hq => by cases hq; rfl) rfl (fun e => by cases e) (by decide) (by omega) (by decide) k11 ?_
  show e_T sh YX11_enter rm 97 [.inr (.inr (.inl 0)), .inl r] [] (e_up M5 0 7 (e_w32 (M5 0 7 + 1)), t) (0, 0) Q
  generalize e6 : e_up M5 0 7 (e_w32 (M5 0 7 + 1)) = M6 at ty6 hP6
  have hP7 := hP6 _ rfl
  have ty7 := f_Ty_deed (d := e_df 2) ty6 hs ht
  have ty8 : f_Ty sh (e_up (d_mk (e_nw M6 t (e_df 2)) t) 0 8 t) (t + 7) := f_Ty.put ty7 (by omega) (fun c d => by rw [h0.1]; exact ⟨by rw [e_up_eq]; omega, by rw [e_up_eq, show ((t : Nat) : Int).toNat = t by omega]; exact hs.1.1, by rw [e_up_eq]; omega⟩) (fun c d => by rw [h0.1] at c; exact absurd c (by decide))
  refine e_aload_n (pc := 97) (n := 0) (e_dx DX11_enter_1 9 rfl) rfl (by omega) ?_
  refine e_new (pc := 98) (kd := 2) (N := 19) (e_dx DX11_enter_1 10 rfl) nX11_29 hs.1.1 rfl (by show t < 1000000; omega) (by show 0 + 1 ≤ rm.2.1; omega) (by show 0 + 19 ≤ rm.2.2; omega) ?_
  refine e_dup (pc := 101) (e_dx DX11_enter_1 11 rfl) (fun x h => by cases h) ?_
  show e_T sh YX11_enter rm 102 [.inr (.inr (.inl 0)), .inl r] ([].reverse ++ .inr (.inr (.inl (t : Int))) :: [.inr (.inr (.inl (t : Int))), .inr (.inr (.inl 0))]) (e_nw M6 t (e_df 2), t + 1) (0 + 1, 0 + 19) Q
  refine e_callIN (Yc := YX2_init) (rc := (20, 6, 52)) (n := 0) (e_dx DX11_enter_1 12 rfl) mwX2_init rfl rfl iwX2_init cX11_38 (by omega) rfl ⟨Nat.le_of_ble_eq_true rfl, Nat.le_of_ble_eq_true rfl⟩ (by show 20 + 1 ≤ rm.1; omega) (by show 0 + 1 + 6 ≤ rm.2.1; omega) (by show 0 + 19 + 52 ≤ rm.2.2; omega) (Nat.le_of_ble_eq_true rfl) ?_
  refine e_Deed hs ht (by decide) (by decide) (by decide) ⟨(fun h => by cases h), fun _ => ?_⟩
  show e_T sh YX11_enter rm 105 [.inr (.inr (.inl 0)), .inl r] [.inr (.inr (.inl (t : Int))), .inr (.inr (.inl 0))] (d_mk (e_nw M6 t (e_df 2)) t, t + 7) (0 + 1 + 6, 0 + 19 + 52) Q
  refine e_putf (pc := 105) (a := 0) (kd := 11) (k := 8) (n := (t : Int)) (e_dx DX11_enter_1 13 rfl) fX11_39 (fun q hq => by cases hq; rfl) rfl (fun e => by cases e) (by decide) (by omega) (by decide) k11 ?_
  show e_T sh YX11_enter rm 108 [.inr (.inr (.inl 0)), .inl r] [] (e_up (d_mk (e_nw M6 t (e_df 2)) t) 0 8 t, t + 7) (0 + 1 + 6, 0 + 19 + 52) Q
  refine e_aload_n (pc := 108) (n := 0) (e_dx DX11_enter_1 14 rfl) rfl (by omega) ?_
  refine e_getf (pc := 109) (a := 0) (e_dx DX11_enter_1 15 rfl) fX11_35 (by omega) k11 ?_
  exact e_iret (pc := 112) (e_dx DX11_enter_1 16 rfl) rfl (by show 0 + 1 + 6 ≤ rm.2.1; omega) (by show 0 + 19 + 52 ≤ rm.2.2; omega) (hQ _ _ _ (by omega) ty8 hP7)
theorem gl_enter {J : Nat → e_M → Prop} (hS : lw_S sh L) (h0 : gl_C0 sh t) (hl : lw_L i ls) (hi : i + 6 ≤ L) (hr : 600 ≤ rm.1) (c1 : cs.1 + 12 ≤ rm.2.1) (c2 : cs.2 + 120 ≤ rm.2.2) (ty : f_Ty sh M t) (hs : d_shp sh t) (ht : t + 7 ≤ 1000000) (K : gl_K sh rm Q i cs J t) (hW : W_enter M t (fun x M1 t1 => WX12_enter M1 (fun y M2 => y = x ∧ J t1 M2))) : e_T sh YL_law rm 251 ls [] (M, t) cs Q := by
  refine law_enter (g := (M, t)) (r1 := (599, 7, 71)) (r2 := (599, 0, 0)) hS hl hi (by show 599 + 1 ≤ rm.1; omega) (by show cs.1 + 7 ≤ rm.2.1; omega) (by show cs.2 + 71 ≤ rm.2.2; omega) (by show 599 + 1 ≤ rm.1; omega) (by show cs.1 + 7 + 0 ≤ rm.2.1; omega) (by show cs.2 + 71 + 0 ≤ rm.2.2; omega) ?_
  refine e_enter h0 ty hs ht (by decide) (by decide) (by decide) hW (fun x M1 t1 h1 ty1 hP => ⟨x, rfl, fun _ => ?_⟩)
  have h01 : gl_C0 sh t1 := ⟨h0.1, h0.2.1, h0.2.2.1, by have := h0.2.2.2; omega⟩
  refine f_use TX12_enter (ar := .inr (.inr (.inl (12, 123, 4456))) :: ([] : List Int).map (fun x => (.inl x : f_V))) (R := gl_rI (fun y M2 => y = x ∧ J t1 M2)) rfl rfl (by exact hP) (by show _ ≤ 599; exact Nat.le_of_ble_eq_true rfl) (Nat.zero_le _) (Nat.zero_le _) (gl_tv2 h01) ty1 (fun M hx => False.elim hx) (fun w2 M2 ty2 hR2 => ?_)
  obtain ⟨y, ew2, e2, j⟩ := gl_I hR2
  exact ⟨by rw [ew2, e2]; rfl, fun _ => K t1 M2 _ ls h1 hl ty2 j (by show cs.1 + 7 + 0 ≤ _; omega) (by show cs.2 + 71 + 0 ≤ _; omega)⟩
end ENTER
