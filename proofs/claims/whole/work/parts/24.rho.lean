/-! a reading of the signs out of the log -/
noncomputable section
def x_upd (ρ : Nat → Int) (m : Nat) (v : Int) (n : Nat) : Int := cond (Nat.beq n m) v (ρ n)
def x_rho : (Nat → Int) → List x_Lg → Nat → Int
  | ρ, [] => ρ
  | ρ, (cls, b, x, y, z) :: l => x_rho (cond (Nat.beq cls 17) ρ (x_upd ρ z.toNat (x_vf cls b (x_dn ρ x) (x_dn ρ y)))) l
def x_bd (m : Nat) (x : Int) : Bool := x_li x || Nat.blt x.toNat m
/-- every sign of the log is made once, in their order, from those before -/
def x_frs : Nat → List x_Lg → Bool
  | _, [] => true
  | m, (cls, _, x, y, z) :: l => (x_bd m x && x_bd m y) && cond (Nat.beq cls 17) (x_frs m l) ((Nat.beq z.toNat m && !(x_li z)) && x_frs (m + 1) l)
theorem x_dn_bd {ρ ρ' : Nat → Int} {m : Nat} {x : Int} (h : x_bd m x = true) (hr : ∀ n, n < m → ρ n = ρ' n) : x_dn ρ x = x_dn ρ' x := by
  unfold x_dn
  cases hl : x_li x with
  | true => rfl
  | false =>
    unfold x_bd at h
    rw [hl, Bool.false_or, Nat.blt_eq] at h
    exact hr _ h
theorem x_bd_up {m : Nat} {x : Int} (h : x_bd m x = true) : x_bd (m + 1) x = true := by
  unfold x_bd at *
  rw [Bool.or_eq_true, Nat.blt_eq] at *
  rcases h with h | h
  · exact Or.inl h
  · exact Or.inr (by omega)
theorem x_upd_lt {ρ : Nat → Int} {m n : Nat} {v : Int} (h : n < m) : x_upd ρ m v n = ρ n := by
  unfold x_upd
  rw [show Nat.beq n m = false from Bool.eq_false_iff.mpr (fun e => by have := x_bq e; omega)]
  rfl
theorem x_upd_at {ρ : Nat → Int} {m : Nat} {v : Int} : x_upd ρ m v m = v := by
  unfold x_upd
  rw [show Nat.beq m m = true from Nat.beq_refl m]
  rfl
theorem x_rho_lt : ∀ (l : List x_Lg) (ρ : Nat → Int) (m n : Nat), x_frs m l = true → n < m → x_rho ρ l n = ρ n
  | [], _, _, _, _, _ => rfl
  | (cls, b, x, y, z) :: l, ρ, m, n, h, hn => by
    obtain ⟨h1, h2⟩ := x_an (show ((x_bd m x && x_bd m y) && cond (Nat.beq cls 17) (x_frs m l) ((Nat.beq z.toNat m && !(x_li z)) && x_frs (m + 1) l)) = true from h)
    show x_rho (cond (Nat.beq cls 17) ρ (x_upd ρ z.toNat (x_vf cls b (x_dn ρ x) (x_dn ρ y)))) l n = ρ n
    cases hc : Nat.beq cls 17 with
    | true =>
      rw [hc, cond_true] at h2
      rw [cond_true]
      exact x_rho_lt l ρ m n h2 hn
    | false =>
      rw [hc, cond_false] at h2
      rw [cond_false]
      obtain ⟨h3, h4⟩ := x_an h2
      obtain ⟨h5, h6⟩ := x_an h3
      rw [x_rho_lt l _ (m + 1) n h4 (by omega), x_bq h5, x_upd_lt hn]
theorem x_rho_ok : ∀ (l : List x_Lg) (ρ : Nat → Int) (m : Nat), x_frs m l = true → (∀ e ∈ l, e.1 = 17 → x_ho (x_rho ρ l) e) → ∀ e ∈ l, x_ho (x_rho ρ l) e
  | [], _, _, _, _ => fun e he => by cases he
  | (cls, b, x, y, z) :: l, ρ, m, h, ht => by
    obtain ⟨h1, h2⟩ := x_an (show ((x_bd m x && x_bd m y) && cond (Nat.beq cls 17) (x_frs m l) ((Nat.beq z.toNat m && !(x_li z)) && x_frs (m + 1) l)) = true from h)
    obtain ⟨hx, hy⟩ := x_an h1
    have e0 : x_rho ρ ((cls, b, x, y, z) :: l) = x_rho (cond (Nat.beq cls 17) ρ (x_upd ρ z.toNat (x_vf cls b (x_dn ρ x) (x_dn ρ y)))) l := rfl
    rw [e0] at ht ⊢
    cases hc : Nat.beq cls 17 with
    | true =>
      rw [hc] at h2 ht
      rw [cond_true] at h2 ht
      rw [cond_true]
      intro e he
      rcases List.mem_cons.mp he with rfl | he
      · exact ht _ List.mem_cons_self (x_bq hc)
      · exact x_rho_ok l ρ m h2 (fun e he => ht e (List.mem_cons_of_mem _ he)) e he
    | false =>
      rw [hc] at h2 ht
      rw [cond_false] at h2 ht
      rw [cond_false]
      obtain ⟨h3, h4⟩ := x_an h2
      obtain ⟨h5, h6⟩ := x_an h3
      have hz : z.toNat = m := x_bq h5
      have hn : cls ≠ 17 := fun e => by subst e; cases hc
      intro e he
      rcases List.mem_cons.mp he with rfl | he
      · have k1 : ∀ n, n < m + 1 → x_rho (x_upd ρ z.toNat (x_vf cls b (x_dn ρ x) (x_dn ρ y))) l n = x_upd ρ z.toNat (x_vf cls b (x_dn ρ x) (x_dn ρ y)) n := fun n hn => x_rho_lt l _ (m + 1) n h4 hn
        have k2 : ∀ n, n < m → x_rho (x_upd ρ z.toNat (x_vf cls b (x_dn ρ x) (x_dn ρ y))) l n = ρ n := fun n hn => by rw [k1 n (by omega), hz, x_upd_lt hn]
        have ez : x_dn (x_rho (x_upd ρ z.toNat (x_vf cls b (x_dn ρ x) (x_dn ρ y))) l) z = x_vf cls b (x_dn ρ x) (x_dn ρ y) := by
          rw [show x_dn (x_rho (x_upd ρ z.toNat (x_vf cls b (x_dn ρ x) (x_dn ρ y))) l) z = x_rho (x_upd ρ z.toNat (x_vf cls b (x_dn ρ x) (x_dn ρ y))) l z.toNat from by
            unfold x_dn
            rw [show x_li z = false from by simpa using h6]
            rfl]
          rw [k1 _ (by omega), x_upd_at]
        unfold x_ho
        dsimp only
        split
        · exact absurd rfl hn
        · rw [ez, x_dn_bd hx k2, x_dn_bd hy k2]
      · exact x_rho_ok l _ (m + 1) h4 (fun e he => ht e (List.mem_cons_of_mem _ he)) e he
end
