/-! the memory behind both constructors: its references are what they must be -/
def ty_r (v : Int) (k n : Nat) : Bool := match v with
  | .ofNat b => Nat.blt b 4534 && (Nat.beq (st_b2 b).1 k && Nat.beq (st_b2 b).2.1 n)
  | .negSucc _ => false
def ty_d (a : Nat) (v : Int) (d : Nat × Nat × Nat × Nat) : Bool := match d.1 with
  | 0 => ty_r v d.2.1 d.2.2.1
  | 1 => ty_r v d.2.1 d.2.2.1 && (match v with
    | .ofNat b => Nat.beq b (Nat.add a d.2.2.2)
    | .negSucc _ => false)
  | _ => ty_r v d.2.1 d.2.2.1 && (match v with
    | .ofNat b => Nat.beq b d.2.2.2
    | .negSucc _ => false)
def ty_c (a : Nat) : Bool := x_li (st_b2 a).2.2.1 && cond (Nat.blt (st_b2 a).1 13) (Nat.ble (e_num (st_b2 a).1) (st_b2 a).2.1 && (List.range (e_num (st_b2 a).1)).all (fun k => cond (Nat.beq (e_tg (st_b2 a).1 k) 4) (ty_d a (x_get (st_b2 a).2.2.1 (st_b2 a).2.2.2 k) (f_ft (st_b2 a).1 k)) true)) (cond (Nat.ble 30 (st_b2 a).1 && Nat.blt (st_b2 a).1 43) ((List.range (st_b2 a).2.1).all (fun k => ty_r (x_get (st_b2 a).2.2.1 (st_b2 a).2.2.2 k) (Nat.sub (st_b2 a).1 30) (e_num (Nat.sub (st_b2 a).1 30)))) true)
theorem ty_all : (List.range 4534).all ty_c = true := by decide +kernel
theorem ty_ks : ∀ j, j < 62 → x_li (x_get (99, 0, 0, []) x_kst j).2.2.1 = true := by decide +kernel
theorem ty_r_ok {sh : Nat → Nat × Nat} {v : Int} {k n : Nat} (hs : ∀ b, b < 4534 → sh b = ((st_b2 b).1, (st_b2 b).2.1)) (h : ty_r v k n = true) : 0 ≤ v ∧ sh v.toNat = (k, n) ∧ v.toNat < 4534 := by
  unfold ty_r at h
  match v, h with
  | .ofNat b, h =>
    rw [Bool.and_eq_true, Bool.and_eq_true, Nat.blt_eq, Nat.beq_eq, Nat.beq_eq] at h
    refine ⟨Int.natCast_nonneg b, ?_, h.1⟩
    show sh b = _
    rw [hs b h.1, h.2.1, h.2.2]
theorem ty_d_ok {sh : Nat → Nat × Nat} {M : e_M} {a k : Nat} {d : Nat × Nat × Nat × Nat} (hs : ∀ b, b < 4534 → sh b = ((st_b2 b).1, (st_b2 b).2.1)) (h : ty_d a (M a k) d = true) : f_fc sh 4534 M a k d := by
  obtain ⟨d0, dk, dn, dv⟩ := d
  match d0, h with
  | 0, h => exact ty_r_ok hs h
  | 1, h =>
    have h : (ty_r (M a k) dk dn && (match M a k with
      | .ofNat b => Nat.beq b (Nat.add a dv)
      | .negSucc _ => false)) = true := h
    rw [Bool.and_eq_true] at h
    have r := ty_r_ok hs h.1
    have e : M a k = ((a + dv : Nat) : Int) := by
      match hm : M a k, h.2 with
      | .ofNat b, h2 => have := (Nat.beq_eq).mp h2; rw [this]; rfl
    rw [e] at r
    have ee : ((a + dv : Nat) : Int).toNat = a + dv := by omega
    rw [ee] at r
    exact ⟨e, r.2.1, r.2.2⟩
  | n + 2, h =>
    have h : (ty_r (M a k) dk dn && (match M a k with
      | .ofNat b => Nat.beq b (dv)
      | .negSucc _ => false)) = true := h
    rw [Bool.and_eq_true] at h
    have r := ty_r_ok hs h.1
    have e : M a k = ((dv : Nat) : Int) := by
      match hm : M a k, h.2 with
      | .ofNat b, h2 => have := (Nat.beq_eq).mp h2; rw [this]; rfl
    rw [e] at r
    have ee : ((dv : Nat) : Int).toNat = dv := by omega
    rw [ee] at r
    exact ⟨e, r.2.1, r.2.2⟩
theorem ty_at {L : Nat} {W : e_M} {g : e_G} (h : x_R (e_sh L) W (x_lim 4534 st_b2) g) (ht : g.2 = 4534) {a : Nat} (ha : a < 4534) : e_sh L a = ((st_b2 a).1, (st_b2 a).2.1) ∧ (x_li (st_b2 a).2.2.1 = true → ∀ k, k < (st_b2 a).2.1 → g.1 a k = x_get (st_b2 a).2.2.1 (st_b2 a).2.2.2 k) := by
  have e : x_lim 4534 st_b2 a = st_b2 a := by
    unfold x_lim
    rw [show Nat.blt a 4534 = true from (Nat.blt_eq).mpr ha, cond_true]
  have := h.1 a (Or.inl (by rw [ht]; exact ha)) (by omega)
  rw [e] at this
  exact ⟨this.1, this.2.1⟩
theorem ty_start {L : Nat} {W : e_M} {g : e_G} (h : x_R (e_sh L) W (x_lim 4534 st_b2) g) (ht : g.2 = 4534) : f_Ty (e_sh L) g.1 4534 := by
  have hs : ∀ b, b < 4534 → e_sh L b = ((st_b2 b).1, (st_b2 b).2.1) := fun b hb => (ty_at h ht hb).1
  refine ⟨by decide, fun a ha => ?_, fun j hj => ?_⟩
  · have hc : ty_c a = true := List.all_eq_true.mp ty_all a (List.mem_range.mpr ha)
    unfold ty_c at hc
    rw [Bool.and_eq_true] at hc
    obtain ⟨li, hc⟩ := hc
    have hv := (ty_at h ht ha).2 li
    rw [hs a ha]
    refine ⟨fun k k1 k2 k3 => ?_, fun k k1 k2 k3 => ?_⟩
    · rw [show Nat.blt (st_b2 a).1 13 = true from (Nat.blt_eq).mpr k1, cond_true, Bool.and_eq_true] at hc
      have hk := List.all_eq_true.mp hc.2 k (List.mem_range.mpr k2)
      have k3' : e_tg (st_b2 a).1 k = 4 := k3
      rw [k3', show Nat.beq 4 4 = true from rfl, cond_true, ← hv k (Nat.lt_of_lt_of_le k2 (Nat.le_of_ble_eq_true hc.1))] at hk
      exact ty_d_ok hs hk
    · have k1' : 30 ≤ (st_b2 a).1 := k1
      have k2' : (st_b2 a).1 < 43 := k2
      have n13 : Nat.blt (st_b2 a).1 13 = false := by
        cases e : Nat.blt (st_b2 a).1 13 with
        | false => rfl
        | true => have := (Nat.blt_eq).mp e; omega
      rw [n13, cond_false, show (Nat.ble 30 (st_b2 a).1 && Nat.blt (st_b2 a).1 43) = true from by rw [Bool.and_eq_true]; exact ⟨Nat.ble_eq_true_of_le k1', (Nat.blt_eq).mpr k2'⟩, cond_true] at hc
      have hk := List.all_eq_true.mp hc k (List.mem_range.mpr k3)
      rw [← hv k k3] at hk
      exact ty_r_ok hs hk
  · have := h.1 (1000001 + j) (Or.inr ⟨by omega, by omega⟩) (by omega)
    have e : x_lim 4534 st_b2 (1000001 + j) = x_get (99, 0, 0, []) x_kst j := by
      rw [x_lim_ge (by omega)]
      exact st_B
    rw [e] at this
    exact ⟨this.1, this.2.1 (ty_ks j hj)⟩
theorem e_shD {L n j a : Nat} (hn : n < 700) (hj : j < 7) (ha : a = 4534 + 7 * n + j) : e_sh L a = e_nth e_pD j := by
  unfold e_sh
  rw [if_neg (by omega), if_neg (by omega), if_neg (by omega), if_neg (by omega), if_neg (by omega), if_neg (by omega), if_neg (by omega), if_neg (by omega), if_neg (by omega), show (a - 4534) % 7 = j by omega]
/-- where the cells of the DEEDS that enter makes lie -/
theorem d_shp_at {L n : Nat} (hn : n < 700) : d_shp (e_sh L) (4534 + 7 * n) :=
  ⟨⟨e_shD (j := 0) hn (by decide) rfl, e_shD (j := 1) hn (by decide) rfl, e_shD (j := 2) hn (by decide) rfl, e_shD (j := 3) hn (by decide) rfl⟩, e_shD (j := 4) hn (by decide) rfl, e_shD (j := 5) hn (by decide) rfl, e_shD (j := 6) hn (by decide) rfl⟩
