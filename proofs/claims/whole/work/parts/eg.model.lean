/-! the model's reading: into a slot -/
/-- the slot but for PARTS and POINTS -/
def P_a (M : e_M) (x : Nat) (D : v_D) : Prop := (M 4461 x = m_ac (D.1 3) ∧ M 4462 x = D.1 4 ∧ M 4463 x = D.1 7 ∧ M 4464 x = D.1 9 ∧ M 4465 x = D.1 8 ∧ M 4466 x = D.1 10) ∧ (∀ k : Nat, (k : Int) < D.1 7 → M 4467 (10 * x + k) = D.2.1 k) ∧ ((D.1 11 = 0 → M 4469 x = 0) ∧ (D.1 11 ≠ 0 → M 4468 x = D.1 11 ∧ M 4469 x = D.1 12))
def P_z (M : e_M) (x : Nat) (D : v_D) : Prop := M 4470 x = D.1 15 ∧ j_pts M x = D.2.2.2.1 ∧ (0 < D.1 15 → M 4471 x = D.1 7 - D.1 15)
def P_y (M : e_M) (x : Nat) (D : v_D) : Prop := M 4474 x = D.1 18 ∧ j_ps M x = D.2.2.2.2
/-- the cells of PARTS and POINTS -/
def n_pz (M M' : e_M) : Prop := ∀ b, 4470 ≤ b → b ≤ 4476 → M' b = M b
def n_fx (B M : e_M) (x : Nat) : Prop := (∀ b, b ≠ 4456 → (b < 4461 ∨ 4476 < b) → M b = B b) ∧ (∀ b y, 4461 ≤ b → b ≤ 4476 → b ≠ 4467 → b ≠ 4472 → b ≠ 4473 → b ≠ 4475 → b ≠ 4476 → y ≠ x → M b y = B b y) ∧ (∀ j, (j < 10 * x ∨ 10 * x + 10 ≤ j) → M 4467 j = B 4467 j) ∧ (∀ j, (j < 6 * x ∨ 6 * x + 6 ≤ j) → M 4472 j = B 4472 j ∧ M 4473 j = B 4473 j) ∧ (∀ j, (j < 12 * x ∨ 12 * x + 12 ≤ j) → M 4475 j = B 4475 j ∧ M 4476 j = B 4476 j) ∧ ∀ k, (k < 6 ∨ (13 < k ∧ k ≠ 35 ∧ k ≠ 36 ∧ k ≠ 37)) → M 4456 k = B 4456 k
def n_co (B M : e_M) (T : q_Tk) (E : Nat → Int) (n x : Nat) (j : Int) (s : q_S) : Prop := n_al B M T E n s ∧ (M 4456 35 = x ∧ x < 152) ∧ P_a M x s.2.2.2 ∧ s.2.2.2.1 7 = j ∧ n_fx B M x
def n_rd (B M : e_M) (T : q_Tk) (E : Nat → Int) (n x : Nat) (j p : Int) (s : q_S) : Prop := n_co B M T E n x j s ∧ P_z M x s.2.2.2 ∧ P_y M x s.2.2.2 ∧ s.2.2.2.1 15 = p
def n_dd (B M : e_M) (x : Nat) (s : q_S) : Prop := n_de M s ∧ n_fx B M x
/-- if the reading has ended at s, it has so at r -/
def q_le (s r : q_S) : Prop := s.2.1 ≠ 0 → r.2.1 = s.2.1 ∧ r.2.2.1 = s.2.2.1
theorem q_le_r {s : q_S} : q_le s s := fun _ => ⟨rfl, rfl⟩
theorem q_le_s {p : q_S → q_S} {s y : q_S} (hp : q_dd p) (h : q_le s y) : q_le s (p y) := fun z => by
  have a := h z
  have b := hp y (by rw [a.1]; exact z)
  exact ⟨b.1.trans a.1, b.2.1.trans a.2⟩
theorem n_dd_l {B M : e_M} {x : Nat} {s r : q_S} (h : n_dd B M x s) (l : q_le s r) : n_dd B M x r := by
  obtain ⟨⟨h1, h2, h3⟩, h4⟩ := h
  have := l h1
  exact ⟨⟨by rw [this.1]; exact h1, by rw [this.1]; exact h2, by rw [this.2]; exact h3⟩, h4⟩
theorem nb0 {P R : Prop} (h : P) : ((0 : Int) = 0 → P) ∧ (¬ (0 : Int) = 0 → R) := ⟨fun _ => h, fun z => absurd rfl z⟩
theorem nb1 {P R : Prop} (h : R) : ((1 : Int) = 0 → P) ∧ (¬ (1 : Int) = 0 → R) := ⟨fun z => absurd z (by decide), fun _ => h⟩
theorem nc0 {P R : Prop} (h : P) : (¬ (0 : Int) = 0 → R) ∧ ((0 : Int) = 0 → P) := ⟨fun z => absurd rfl z, fun _ => h⟩
theorem nc1 {P R : Prop} (h : R) : (¬ (1 : Int) = 0 → R) ∧ ((1 : Int) = 0 → P) := ⟨fun _ => h, fun z => absurd z (by decide)⟩
theorem nz0 {P : Prop} (h : P) : ((0 : Int) = 0 ∨ (0 : Int) = 1) ∧ P := ⟨Or.inl rfl, h⟩
theorem nz1 {P : Prop} (h : P) : ((1 : Int) = 0 ∨ (1 : Int) = 1) ∧ P := ⟨Or.inr rfl, h⟩
theorem n_fx_t {B M M' : e_M} {x : Nat} (h : n_fx B M x) (f : n_rf M M') : n_fx B M' x := by
  obtain ⟨h1, h2, h3, h4, h5, h6⟩ := h
  refine ⟨fun b hb hb2 => by rw [f.1 b hb]; exact h1 b hb hb2, fun b y a1 a2 a3 a4 a5 a6 a7 a8 => by rw [f.1 b (by omega)]; exact h2 b y a1 a2 a3 a4 a5 a6 a7 a8, fun j hj => by rw [f.1 _ (by omega)]; exact h3 j hj, fun j hj => by rw [f.1 _ (by omega), f.1 _ (by omega)]; exact h4 j hj, fun j hj => by rw [f.1 _ (by omega), f.1 _ (by omega)]; exact h5 j hj, fun k hk => by rw [f.2 k (by omega)]; exact h6 k hk⟩
theorem P_a_congr {M N : e_M} {x : Nat} {D : v_D} (h : P_a M x D) (f : ∀ b, 4461 ≤ b → b ≤ 4469 → N b = M b) : P_a N x D := by
  unfold P_a at *
  rw [f 4461 (by omega) (by omega), f 4462 (by omega) (by omega), f 4463 (by omega) (by omega), f 4464 (by omega) (by omega), f 4465 (by omega) (by omega), f 4466 (by omega) (by omega), f 4467 (by omega) (by omega), f 4468 (by omega) (by omega), f 4469 (by omega) (by omega)]
  exact h
theorem n_co_of {B M M' : e_M} {T : q_Tk} {E : Nat → Int} {n x : Nat} {j : Int} {s s' : q_S} (h : n_co B M T E n x j s) (h' : n_al B M' T E n s') (f : n_rf M M') (eD : s'.2.2.2 = s.2.2.2) : n_co B M' T E n x j s' := by
  obtain ⟨h1, h2, h3, h4, h5⟩ := h
  refine ⟨h', ⟨by rw [f.2 35 (by omega)]; exact h2.1, h2.2⟩, ?_, by rw [eD]; exact h4, n_fx_t h5 f⟩
  rw [eD]
  exact P_a_congr h3 (fun b b1 b2 => f.1 b (by omega))
theorem n_pz_f {M M' : e_M} (f : n_rf M M') : n_pz M M' := fun b b1 b2 => f.1 b (by omega)
theorem n_pz_t {M M' M2 : e_M} (f : n_pz M M') (g : n_pz M' M2) : n_pz M M2 := fun b b1 b2 => (g b b1 b2).trans (f b b1 b2)
theorem co_must {B M : e_M} {T : q_Tk} {E : Nat → Int} {n x : Nat} {j : Int} {s r : q_S} {w : Int} (k : Int) {Q : Int → e_M → Prop} (hn : n_hn B T E n) (h : n_co B M T E n x j s) (hk : 200 ≤ k ∧ k ≤ 270) (hw : q_wm k = w) (l : q_le (q_exp T n k s) r) (q0 : ∀ M', n_dd B M' x r → Q 0 M') (q1 : ∀ M', n_co B M' T E n x j (q_exp T n k s) → n_pz M M' → Q 1 M') : WX12_must w M Q :=
  n_must hn h.1 hk hw (fun M' a f => q1 M' (n_co_of h a f q_exp_D) (n_pz_f f)) (fun M' a f => q0 M' (n_dd_l ⟨a, n_fx_t h.2.2.2.2 f⟩ l))
theorem co_sign {B M : e_M} {T : q_Tk} {E : Nat → Int} {n x : Nat} {j : Int} {s r : q_S} {c : Int} (k : Int) {Q : Int → e_M → Prop} (hn : n_hn B T E n) (h : n_co B M T E n x j s) (hk : q_sg k) (hc : q_sm k = c) (l : q_le (q_exp T n k s) r) (q0 : ∀ M', n_dd B M' x r → Q 0 M') (q1 : ∀ M', n_co B M' T E n x j (q_exp T n k s) → n_pz M M' → Q 1 M') : WX12_mustSign c M Q :=
  n_mustSign hn h.1 hk hc (fun M' a f => q1 M' (n_co_of h a f q_exp_D) (n_pz_f f)) (fun M' a f => q0 M' (n_dd_l ⟨a, n_fx_t h.2.2.2.2 f⟩ l))
theorem co_wrong {B M : e_M} {T : q_Tk} {E : Nat → Int} {n x : Nat} {j : Int} {s r : q_S} {k : Int} {Q : Int → e_M → Prop} (h : n_co B M T E n x j s) (hk : k ≠ 0) (l : q_le (q_note T k s) r) (q0 : ∀ M', n_dd B M' x r → Q 0 M') : WX12_wrong k M Q :=
  n_wrong h.1 hk (fun M' a f => q0 M' (n_dd_l ⟨a, n_fx_t h.2.2.2.2 f⟩ l))
theorem co_goodk {B M : e_M} {T : q_Tk} {E : Nat → Int} {n x : Nat} {j : Int} {s r : q_S} {k : Int} {Q : Int → e_M → Prop} (h : n_co B M T E n x j s) (hk : 0 < k ∧ k ≤ 4) (l : q_le (q_note T k s) r) (q0 : ∀ M', n_dd B M' x r → Q 0 M') : WX12_good k M Q :=
  n_goodk h.1 hk (fun M' a f => q0 M' (n_dd_l ⟨a, n_fx_t h.2.2.2.2 f⟩ l))
theorem co_good0 {B M : e_M} {T : q_Tk} {E : Nat → Int} {n x : Nat} {j : Int} {s r : q_S} {Q : Int → e_M → Prop} (hn : n_hn B T E n) (h : n_co B M T E n x j s) (ht : (T s.1).1 ≠ 0) (l : q_le (q_take T n s) r) (q0 : ∀ M', n_dd B M' x r → Q 0 M') (q1 : ∀ M', n_co B M' T E n x j (q_take T n s) → n_pz M M' → Q 1 M') : WX12_good 0 M Q :=
  n_good0 hn h.1 ht (fun M' a f => q1 M' (n_co_of h a f q_take_D) (n_pz_f f)) (fun M' a f => q0 M' (n_dd_l ⟨a, n_fx_t h.2.2.2.2 f⟩ l))
theorem n_al_up {B M M' : e_M} {T : q_Tk} {E : Nat → Int} {n : Nat} {s s' : q_S} (h : n_al B M T E n s) (f : ∀ b, b < 4461 → M' b = M b) (e : s'.1 = s.1 ∧ s'.2.1 = s.2.1) : n_al B M' T E n s' := by
  obtain ⟨h1, ⟨h2, h3, h4, h5⟩, h6⟩ := h
  have r := f 4456 (by omega)
  refine ⟨by rw [e.2]; exact h1, ⟨⟨fun b hb => by rw [f b (by omega)]; exact h2.1 b hb, by rw [r]; exact h2.2⟩, by rw [e.1]; exact h3, by rw [r, e.1]; exact h4, ?_⟩, by rw [r]; exact h6⟩
  rw [e.1]
  unfold n_tk at *
  rw [r]
  exact h5
/-- cells of the slot written -/
theorem n_co_up {B M M' : e_M} {T : q_Tk} {E : Nat → Int} {n x : Nat} {j j' : Int} {s : q_S} {f : v_D → v_D} (h : n_co B M T E n x j s) (hb : ∀ b, (b < 4461 ∨ 4476 < b) → M' b = M b) (hf : n_fx B M x → n_fx B M' x) (hP : P_a M' x (f s.2.2.2)) (hj : (f s.2.2.2).1 7 = j') : n_co B M' T E n x j' (q_D f s) := by
  obtain ⟨h1, h2, h3, h4, h5⟩ := h
  exact ⟨n_al_up h1 (fun b hb2 => hb b (by omega)) ⟨rfl, rfl⟩, ⟨by rw [hb 4456 (by omega)]; exact h2.1, h2.2⟩, hP, hj, hf h5⟩
theorem n_fx_1 {B M : e_M} {x a k : Nat} {v : Int} (h : n_fx B M x) (ha : 4461 ≤ a ∧ a ≤ 4476) (hk : (a ≠ 4467 ∧ a ≠ 4472 ∧ a ≠ 4473 ∧ a ≠ 4475 ∧ a ≠ 4476 ∧ k = x) ∨ (a = 4467 ∧ 10 * x ≤ k ∧ k < 10 * x + 10) ∨ ((a = 4472 ∨ a = 4473) ∧ 6 * x ≤ k ∧ k < 6 * x + 6) ∨ ((a = 4475 ∨ a = 4476) ∧ 12 * x ≤ k ∧ k < 12 * x + 12)) : n_fx B (e_up M a k v) x := by
  obtain ⟨h1, h2, h3, h4, h5, h6⟩ := h
  refine ⟨fun b hb hb2 => by rw [e_up_row (by omega)]; exact h1 b hb hb2, fun b y a1 a2 a3 a4 a5 a6 a7 a8 => by rw [e_up_ne (by omega)]; exact h2 b y a1 a2 a3 a4 a5 a6 a7 a8, fun i hi => by rw [e_up_ne (by omega)]; exact h3 i hi, fun i hi => by rw [e_up_ne (by omega), e_up_ne (by omega)]; exact h4 i hi, fun i hi => by rw [e_up_ne (by omega), e_up_ne (by omega)]; exact h5 i hi, fun i hi => by rw [e_up_row (by omega)]; exact h6 i hi⟩
theorem co_name {B M : e_M} {T : q_Tk} {E : Nat → Int} {n x : Nat} {j : Int} {s r : q_S} (w : Int) {Q : Int → e_M → Prop} (hn : n_hn B T E n) (h : n_co B M T E n x j s) (hj : 0 ≤ j ∧ j < 8) (l : q_le (q_named T n w s) r) (q0 : ∀ M', n_dd B M' x r → Q 0 M') (q1 : ∀ M', n_co B M' T E n x (j + 1) (q_named T n w s) → n_pz M M' → Q 1 M') : WX12_mustName 0 M Q := by
  have tk := h.1.2.1.2.2.2
  obtain ⟨ex, hx⟩ := h.2.1
  obtain ⟨p1, p2, p3⟩ := h.2.2.1
  have ej := h.2.2.2.1
  have en : M 4463 x = j := by rw [p1.2.2.1]; exact ej
  have e1 : (q_D (qd_name (q_val T s) w) s).2.1 = 0 := h.1.1
  unfold WX12_mustName VX12_mustName
  refine n_isName tk (fun e => ⟨fun _ => ?_, fun z => absurd z (by decide)⟩) (fun e => ⟨fun z => absurd rfl z, fun _ => ?_⟩)
  · rw [ex, show ((x : Nat) : Int).toNat = x from rfl, en, show e_w32 ((10 : Int) * x) = 10 * x from e_w32_id ⟨by omega, by omega⟩, show e_w32 ((10 : Int) * x + j) = 10 * x + j from e_w32_id ⟨by omega, by omega⟩]
    refine ⟨by omega, by omega, fun M2 e2 => ⟨fun z => absurd rfl z, fun _ => ?_⟩⟩
    have r2 : M2 4456 35 = x := by rw [e2, e_up_row (by omega)]; exact ex
    rw [r2, show ((x : Nat) : Int).toNat = x from rfl]
    refine ⟨by omega, by omega, fun M3 e3 => ?_⟩
    rw [show M2 4463 x = j by rw [e2, e_up_row (by omega)]; exact en, show e_w32 (j + 1) = j + 1 from e_w32_id ⟨by omega, by omega⟩] at e3
    rw [n_nam tk e] at e2
    have rr : ∀ b, b ≠ 4463 → b ≠ 4467 → M3 b = M b := fun b a1 a2 => by rw [e3, e_up_row a1, e2, e_up_row a2]
    have h3 : n_co B M3 T E n x (j + 1) (q_D (qd_name (q_val T s) w) s) := by
      refine n_co_up h (fun b hb => rr b (by omega) (by omega)) (fun f => ?_) ?_ ?_
      · rw [e3, e2]
        exact n_fx_1 (n_fx_1 f (by omega) (by omega)) (by omega) (by omega)
      · unfold qd_name
        rw [ej, if_pos (by omega)]
        unfold P_a
        dsimp only
        rw [s_fu_eq, s_fu_ne (by omega), s_fu_ne (by omega), s_fu_ne (by omega), s_fu_ne (by omega), s_fu_ne (by omega), s_fu_ne (by omega), s_fu_ne (by omega), rr 4461 (by omega) (by omega), rr 4462 (by omega) (by omega), rr 4464 (by omega) (by omega), rr 4465 (by omega) (by omega), rr 4466 (by omega) (by omega), rr 4468 (by omega) (by omega), rr 4469 (by omega) (by omega)]
        refine ⟨⟨p1.1, p1.2.1, by rw [e3, e_up_eq], p1.2.2.2⟩, fun k hk => ?_, p3⟩
        rw [e3, e_up_row (by omega), e2]
        by_cases g : (k : Int) = j
        · rw [show (10 * (x : Int) + j).toNat = 10 * x + k by omega, e_up_eq, show j.toNat = k by omega, s_fu_eq]
          rfl
        · rw [e_up_ne (by omega), s_fu_ne (by omega)]
          exact p2 k (by omega)
      · unfold qd_name
        rw [ej, if_pos (by omega)]
        dsimp only
        exact s_fu_eq
    have eq : q_named T n w s = q_take T n (q_D (qd_name (q_val T s) w) s) := if_pos (by rw [q_tk0 e1]; exact e)
    rw [eq] at l q1
    exact co_good0 hn h3 (by show (T s.1).1 ≠ 0; omega) l (fun M' a => nz0 (q0 M' a)) (fun M' a z => nz1 (q1 M' a (n_pz_t (fun b b1 b2 => rr b (by omega) (by omega)) z)))
  · have eq : q_named T n w s = q_note T 1 (q_D (qd_name (q_val T s) w) s) := if_neg (by rw [q_tk0 e1]; exact e)
    rw [eq] at l
    refine n_wrong (s := q_D (qd_name (q_val T s) w) s) ⟨e1, h.1.2⟩ (by decide) (fun M' a f => nz0 (q0 M' (n_dd_l ⟨a, n_fx_t h.2.2.2.2 f⟩ l)))
theorem co_name4 {B M : e_M} {T : q_Tk} {E : Nat → Int} {n x : Nat} {j : Int} {s r : q_S} {Q : Int → e_M → Prop} (h : n_co B M T E n x j s) (hj : 0 ≤ j ∧ j ≤ 9) (e : (T s.1).1 = 4) (l : q_le (q_note T 4 s) r) (q0 : ∀ M', n_dd B M' x r → Q 0 M') : WX12_mustName 4 M Q := by
  have tk := h.1.2.1.2.2.2
  obtain ⟨ex, hx⟩ := h.2.1
  obtain ⟨p1, p2, p3⟩ := h.2.2.1
  have ej := h.2.2.2.1
  have en : M 4463 x = j := by rw [p1.2.2.1]; exact ej
  unfold WX12_mustName VX12_mustName
  refine n_isName tk (fun e => ⟨fun _ => ?_, fun z => absurd z (by decide)⟩) (fun e' => absurd e e')
  rw [ex, show ((x : Nat) : Int).toNat = x from rfl, en, show e_w32 ((10 : Int) * x) = 10 * x from e_w32_id ⟨by omega, by omega⟩, show e_w32 ((10 : Int) * x + j) = 10 * x + j from e_w32_id ⟨by omega, by omega⟩]
  refine ⟨by omega, by omega, fun M2 e2 => ⟨fun _ => ?_, fun z => absurd z (by decide)⟩⟩
  have h2 : n_al B M2 T E n s := n_al_up h.1 (fun b hb => by rw [e2, e_up_row (by omega)]) ⟨rfl, rfl⟩
  have f2 : n_fx B M2 x := by rw [e2]; exact n_fx_1 h.2.2.2.2 (by omega) (by omega)
  exact n_goodk h2 (by decide) (fun M' a f => nz0 (q0 M' (n_dd_l ⟨a, n_fx_t f2 f⟩ l)))
theorem q_take_c {T : q_Tk} {n : Nat} {s : q_S} {f : v_D → v_D} : q_take T n (q_D f s) = q_D f (q_take T n s) := by
  unfold q_take q_D
  dsimp only
  by_cases a : s.2.1 = 0
  · rw [if_pos a, if_pos a]
    by_cases b : 600 ≤ (T s.1).2.1
    · rw [if_pos b, if_pos b]
    · rw [if_neg b, if_neg b]
      by_cases c : s.1 + 1 < n
      · rw [if_pos c, if_pos c]
      · rw [if_neg c, if_neg c]
  · rw [if_neg a, if_neg a]
/-- one cell of the slot written: scalars -/
theorem n_co_1 {B M : e_M} {T : q_Tk} {E : Nat → Int} {n x : Nat} {j v : Int} {s : q_S} {a k : Nat} (h : n_co B M T E n x j s) (hk : (a = 4464 ∧ k = 9) ∨ (a = 4465 ∧ k = 8) ∨ (a = 4466 ∧ k = 10)) : n_co B (e_up M a x v) T E n x j (q_D (qd_set k v) s) ∧ n_pz M (e_up M a x v) := by
  obtain ⟨p1, p2, p3⟩ := h.2.2.1
  refine ⟨n_co_up h (fun b hb => e_up_row (by omega)) (fun f => n_fx_1 f (by omega) (by omega)) ?_ ?_, fun b b1 b2 => e_up_row (by omega)⟩
  · unfold P_a qd_set
    dsimp only
    rcases hk with ⟨e1, e2⟩ | ⟨e1, e2⟩ | ⟨e1, e2⟩
    · subst e1; subst e2
      simp only [s_fu_eq, e_up_eq]
      rw [s_fu_ne (by omega), s_fu_ne (by omega), s_fu_ne (by omega), s_fu_ne (by omega), s_fu_ne (by omega), s_fu_ne (by omega), s_fu_ne (by omega), e_up_row (by omega), e_up_row (by omega), e_up_row (by omega), e_up_row (by omega), e_up_row (by omega), e_up_row (by omega), e_up_row (by omega), e_up_row (by omega)]
      exact ⟨⟨p1.1, p1.2.1, p1.2.2.1, trivial, p1.2.2.2.2⟩, p2, p3⟩
    · subst e1; subst e2
      simp only [s_fu_eq, e_up_eq]
      rw [s_fu_ne (by omega), s_fu_ne (by omega), s_fu_ne (by omega), s_fu_ne (by omega), s_fu_ne (by omega), s_fu_ne (by omega), s_fu_ne (by omega), e_up_row (by omega), e_up_row (by omega), e_up_row (by omega), e_up_row (by omega), e_up_row (by omega), e_up_row (by omega), e_up_row (by omega), e_up_row (by omega)]
      exact ⟨⟨p1.1, p1.2.1, p1.2.2.1, p1.2.2.2.1, trivial, p1.2.2.2.2.2⟩, p2, p3⟩
    · subst e1; subst e2
      simp only [s_fu_eq, e_up_eq]
      rw [s_fu_ne (by omega), s_fu_ne (by omega), s_fu_ne (by omega), s_fu_ne (by omega), s_fu_ne (by omega), s_fu_ne (by omega), s_fu_ne (by omega), e_up_row (by omega), e_up_row (by omega), e_up_row (by omega), e_up_row (by omega), e_up_row (by omega), e_up_row (by omega), e_up_row (by omega), e_up_row (by omega)]
      exact ⟨⟨p1.1, p1.2.1, p1.2.2.1, p1.2.2.2.1, p1.2.2.2.2.1, trivial⟩, p2, p3⟩
  · show s_fu s.2.2.2.1 k v 7 = j
    rw [s_fu_ne (by omega)]
    exact h.2.2.2.1
theorem co_amt {B M : e_M} {T : q_Tk} {E : Nat → Int} {n x : Nat} {j : Int} {s r : q_S} {Q : Int → e_M → Prop} (hn : n_hn B T E n) (h : n_co B M T E n x j s) (l : q_le (q_amt T n s) r) (q0 : ∀ M', n_dd B M' x r → Q 0 M') (q1 : ∀ M', n_co B M' T E n x j (q_amt T n s) → n_pz M M' → Q 1 M') : WX12_mustAmount M Q := by
  have tk := h.1.2.1.2.2.2
  obtain ⟨ex, hx⟩ := h.2.1
  obtain ⟨a0, a1, a2, a3, a4⟩ := n_kd tk
  unfold WX12_mustAmount VX12_mustAmount
  rw [ex, show ((x : Nat) : Int).toNat = x from rfl]
  refine ⟨fun g => ⟨by omega, fun M1 e1 => ?_⟩, fun g => ?_⟩
  · have e3 := a2.mp g
    have hv := (hn.2.1 s.1).1 e3
    rw [n_num tk (Or.inr e3)] at e1
    have h1 := n_co_1 (v := e_w32 (q_val T s)) h (Or.inl ⟨rfl, rfl⟩)
    have ev : e_w32 (q_val T s) = (T s.1).2.2 := e_w32_id ⟨by unfold q_val; omega, by unfold q_val; omega⟩
    have eq : q_amt T n s = q_take T n (q_D (qd_set 9 (e_w32 (q_val T s))) s) := by
      unfold q_amt q_exp
      rw [if_pos (by rw [q_tk0 h.1.1]; exact e3), q_take_c]
    rw [eq] at l q1
    rw [ev] at h1 l q1
    rw [← e1] at h1
    exact co_good0 hn h1.1 (by show (T s.1).1 ≠ 0; omega) l (fun M' a => nz0 (q0 M' a)) (fun M' a z => nz1 (q1 M' a (n_pz_t h1.2 z)))
  · have e3 : (T s.1).1 ≠ 3 := fun z => g (a2.mpr z)
    have eq : q_amt T n s = q_D (qd_set 9 (e_w32 (q_val T s))) (q_note T 1 s) := by
      unfold q_amt q_exp
      rw [if_neg (by rw [q_tk0 h.1.1]; exact e3)]
    rw [eq] at l
    exact co_wrong h (by decide) (fun z => l z) (fun M' a => nz0 (q0 M' a))
theorem co_date {B M : e_M} {T : q_Tk} {E : Nat → Int} {n x : Nat} {j : Int} {s r : q_S} {Q : Int → e_M → Prop} (hn : n_hn B T E n) (h : n_co B M T E n x j s) (l : q_le (q_day T n 8 s) r) (q0 : ∀ M', n_dd B M' x r → Q 0 M') (q1 : ∀ M', n_co B M' T E n x j (q_day T n 8 s) → n_pz M M' → Q 1 M') : WX12_mustDate M Q := by
  have tk := h.1.2.1.2.2.2
  obtain ⟨ex, hx⟩ := h.2.1
  obtain ⟨a0, a1, a2, a3, a4⟩ := n_kd tk
  unfold WX12_mustDate VX12_mustDate
  rw [ex, show ((x : Nat) : Int).toNat = x from rfl]
  refine ⟨fun g => ⟨by omega, fun M1 e1 => ?_⟩, fun g => ?_⟩
  · have e3 := a1.mp g
    have hv := (hn.2.1 s.1).2 e3
    rw [n_num tk (Or.inl e3)] at e1
    have r1 : M1 4456 9 = (T s.1).2.2 := by rw [e1, e_up_row (by omega)]; exact n_num tk (Or.inl e3)
    have h1 := n_co_1 (v := e_w32 (q_val T s)) h (Or.inr (Or.inl ⟨rfl, rfl⟩))
    have ev : e_w32 (q_val T s) = (T s.1).2.2 := e_w32_id ⟨by unfold q_val; omega, by unfold q_val; omega⟩
    rw [r1]
    unfold WX12_mustDate_40 VX12_mustDate_40
    refine ⟨fun g2 => ?_, fun g2 => ?_⟩
    · have eq : q_day T n 8 s = q_take T n (q_D (qd_set 8 (e_w32 (q_val T s))) s) := by
        unfold q_day q_date q_exp
        rw [if_neg (c := q_tk T s = 2 ∧ e_w32 (q_val T s) < 0) (fun z => by have := z.2; omega), if_pos (by rw [q_tk0 h.1.1]; exact e3), q_take_c]
      rw [eq] at l q1
      rw [ev] at h1 l q1
      rw [← e1] at h1
      exact co_good0 hn h1.1 (by show (T s.1).1 ≠ 0; omega) l (fun M' a => nz0 (q0 M' a)) (fun M' a z => nz1 (q1 M' a (n_pz_t h1.2 z)))
    · have eq : q_day T n 8 s = q_D (qd_set 8 (e_w32 (q_val T s))) (q_exp T n 2 (q_note T 2 s)) := by
        unfold q_day q_date
        rw [if_pos (c := q_tk T s = 2 ∧ e_w32 (q_val T s) < 0) ⟨by rw [q_tk0 h.1.1]; exact e3, by omega⟩]
      have h2 : n_al B M1 T E n s := n_al_up h.1 (fun b hb => by rw [e1, e_up_row (by omega)]) ⟨rfl, rfl⟩
      have f2 : n_fx B M1 x := by rw [e1]; exact n_fx_1 h.2.2.2.2 (by omega) (by omega)
      have l2 : q_le (q_note T 2 s) r := fun z => by
        have a := q_exp_dd (T := T) (n := n) (k := 2) _ z
        have b := l (by rw [eq]; show (q_exp T n 2 (q_note T 2 s)).2.1 ≠ 0; rw [a.1]; exact z)
        rw [eq] at b
        exact ⟨b.1.trans a.1, b.2.trans a.2.1⟩
      exact n_goodk h2 (by decide) (fun M' a f => nz0 (q0 M' (n_dd_l ⟨a, n_fx_t f2 f⟩ l2)))
  · have e3 : (T s.1).1 ≠ 2 := fun z => g (a1.mpr z)
    have eq : q_day T n 8 s = q_D (qd_set 8 (e_w32 (q_val T s))) (q_note T 1 s) := by
      unfold q_day q_date q_exp
      rw [if_neg (c := q_tk T s = 2 ∧ e_w32 (q_val T s) < 0) (fun z => e3 (by have := z.1; rw [q_tk0 h.1.1] at this; exact this)), if_neg (by rw [q_tk0 h.1.1]; exact e3)]
    rw [eq] at l
    exact co_wrong h (by decide) (fun z => l z) (fun M' a => nz0 (q0 M' a))
