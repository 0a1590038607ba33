/-! what the machine answers is what the frame answers -/
/-- the memory is what the rows say; a row whose filling is no number says only the kind and the length: what the cell holds is what the frame W holds there, and so it is with the script -/
def x_R (sh : Nat → Nat × Nat) (W : e_M) (f : Nat → x_O) (g : e_G) : Prop := (∀ a, e_al g.2 a → a ≠ 1000000 → sh a = ((f a).1, (f a).2.1) ∧ (x_li (f a).2.2.1 = true → ∀ k, k < (f a).2.1 → g.1 a k = x_get (f a).2.2.1 (f a).2.2.2 k) ∧ (x_li (f a).2.2.1 = false → g.1 a = W a)) ∧ g.1 1000000 = W 1000000
theorem x_R.kd {sh : Nat → Nat × Nat} {W : e_M} {f : Nat → x_O} {g : e_G} (h : x_R sh W f g) {a : Nat} (ha : e_al g.2 a) (h0 : a ≠ 1000000) : sh a = ((f a).1, (f a).2.1) := (h.1 a ha h0).1
theorem x_R.at {sh : Nat → Nat × Nat} {W : e_M} {f : Nat → x_O} {g : e_G} (h : x_R sh W f g) {a : Nat} (ha : e_al g.2 a) (h0 : a ≠ 1000000) (hd : x_li (f a).2.2.1 = true) : sh a = ((f a).1, (f a).2.1) ∧ ∀ k, k < (f a).2.1 → g.1 a k = x_get (f a).2.2.1 (f a).2.2.2 k := ⟨(h.1 a ha h0).1, (h.1 a ha h0).2.1 hd⟩
def x_Kp (sh : Nat → Nat × Nat) (W : e_M) (Y : e_Y) (rm : Nat × Nat × Nat) (Q : Option e_V → e_G → Prop) (T0 : Nat) (B : Nat → x_O) : Nat → Nat → List e_V → List e_V → x_M → Nat → Prop := fun _ pc ls st M top =>
  (top ≤ T0 + rm.2.1 ∧ x_sl sh top ≤ x_sl sh T0 + rm.2.2) ∧ (ls.length ≤ Y.2.2.1 → ∀ (g : e_G) (cs : Nat × Nat), g.2 = top → x_R sh W (x_rd B M) g → cs.1 + T0 = top → cs.2 + x_sl sh T0 = x_sl sh top → e_T sh Y rm pc ls st g cs Q)
abbrev x_I : Type := Nat × Nat × Nat × Nat × Nat × Int × List (Int × Nat × Nat)
/-- an instruction of the machine says what the method's does -/
def x_ok (Y : e_Y) (op pc a b c : Nat) (z : Int) (t : List (Int × Nat × Nat)) : Prop :=
  ∀ (sh : Nat → Nat × Nat) (W : e_M) (rm : Nat × Nat × Nat) (ls st : List e_V) (M : x_M) (g : e_G) (cs : Nat × Nat) (Q : Option e_V → e_G → Prop) (T0 : Nat) (B : Nat → x_O) (S0 : Nat → Nat × Nat), (∀ a, a < 1000000 → S0 a = sh a) → 4 ≤ rm.1 → ls.length ≤ Y.2.2.1 → x_R sh W (x_rd B M) g → cs.1 + T0 = g.2 → cs.2 + x_sl sh T0 = x_sl sh g.2 →
    x_st op False x_brP x_bsP x_arP (x_Kp sh W Y rm Q T0 B) B S0 pc a b c z t ls st M g.2 → e_T sh Y rm pc ls st g cs Q
section SOUND
variable {Y : e_Y} {op pc a b c idx : Nat} {z : Int} {t : List (Int × Nat × Nat)}
theorem x_len1 {ls : List e_V} {i : Nat} {v : e_V} : (e_s1 ls i v).length = ls.length := by
  unfold e_s1
  rw [List.length_set]
  unfold e_cut
  split
  · rfl
  · split
    · rw [List.length_set]
    · rfl
theorem x_len2 {ls : List e_V} {i : Nat} {v : e_V} : (e_s2 ls i v).length = ls.length := by
  unfold e_s2
  rw [List.length_set, List.length_set]
  unfold e_cut
  split
  · rfl
  · split
    · rw [List.length_set]
    · rfl
theorem x_R_up {sh : Nat → Nat × Nat} {W : e_M} {B : Nat → x_O} {M : x_M} {g : e_G} {n k : Nat} {v : Int} (hn : n < 1000000) (hd : x_li (x_rd B M n).2.2.1 = true) (hR : x_R sh W (x_rd B M) g) : x_R sh W (x_rd B (x_put M n ((x_rd B M n).1, (x_rd B M n).2.1, (x_rd B M n).2.2.1, x_set (x_rd B M n).2.2.1 v k (x_rd B M n).2.2.2))) (e_up g.1 n k v, g.2) := by
  refine ⟨fun q hq h0 => ?_, ?_⟩
  · obtain ⟨h1, h2, h3⟩ := hR.1 q hq h0
    rw [x_rd_put]
    by_cases e : q = n
    · subst e
      rw [if_pos rfl]
      refine ⟨h1, fun _ j hj => ?_, fun hf => ?_⟩
      · show e_up g.1 q k v q j = _
        rw [e_up_at, x_get_set]
        split
        · rfl
        · exact h2 hd j hj
      · have hf2 : x_li (x_rd B M q).2.2.1 = false := hf
        rw [hd] at hf2
        cases hf2
    · rw [if_neg e]
      refine ⟨h1, fun hl j hj => ?_, fun hf => ?_⟩
      · show e_up g.1 n k v q j = _
        rw [e_up_row e]
        exact h2 hl j hj
      · show e_up g.1 n k v q = _
        funext j
        rw [e_up_row e, h3 hf]
  · show e_up g.1 n k v 1000000 = _
    funext j
    rw [e_up_row (by omega), hR.2]
theorem x_R_nw {sh : Nat → Nat × Nat} {W : e_M} {B : Nat → x_O} {M : x_M} {g : e_G} {kd N : Nat} {y : Int} {d : Nat → Int} {l : List Int} (ht : g.2 < 1000000) (hy : x_li y = true) (hs : sh g.2 = (kd, N)) (hd : ∀ k, k < N → d k = x_get y l k) (hR : x_R sh W (x_rd B M) g) : x_R sh W (x_rd B (x_put M g.2 (kd, N, y, l))) (e_nw g.1 g.2 d, g.2 + 1) := by
  refine ⟨fun q hq h0 => ?_, ?_⟩
  · rw [x_rd_put]
    by_cases e : q = g.2
    · subst e
      rw [if_pos rfl]
      refine ⟨hs, fun _ j hj => ?_, fun hf => ?_⟩
      · show e_nw g.1 g.2 d g.2 j = _
        rw [e_nw_at]
        exact hd j hj
      · have hf2 : x_li y = false := hf
        rw [hy] at hf2
        cases hf2
    · rw [if_neg e]
      have hq2 : e_al g.2 q := by rcases e_al_succ hq with h | h; exact h; exact absurd h e
      obtain ⟨h1, h2, h3⟩ := hR.1 q hq2 h0
      refine ⟨h1, fun hl j hj => ?_, fun hf => ?_⟩
      · show e_nw g.1 g.2 d q j = _
        rw [e_nw_old e]
        exact h2 hl j hj
      · show e_nw g.1 g.2 d q = _
        funext j
        rw [e_nw_old e, h3 hf]
  · show e_nw g.1 g.2 d 1000000 = _
    funext j
    rw [e_nw_old (by omega), hR.2]
theorem x_c0t {x y : Int} (h : x = y) : x_cd 0 x y = true := x_eq_iff.mpr h
theorem x_c0f {x y : Int} (h : ¬ x = y) : x_cd 0 x y = false := Bool.eq_false_iff.mpr (fun e => h (x_eq_iff.mp e))
theorem x_c1t {x y : Int} (h : ¬ x = y) : x_cd 1 x y = true := by show (!(x_eq x y)) = true; rw [show x_eq x y = false from x_c0f h]; rfl
theorem x_c1f {x y : Int} (h : x = y) : x_cd 1 x y = false := by show (!(x_eq x y)) = false; rw [show x_eq x y = true from x_c0t h]; rfl
theorem x_c2t {x y : Int} (h : x < y) : x_cd 2 x y = true := x_lt_iff.mpr h
theorem x_c2f {x y : Int} (h : y ≤ x) : x_cd 2 x y = false := Bool.eq_false_iff.mpr (fun e => by have := x_lt_iff.mp e; omega)
theorem x_c3t {x y : Int} (h : y ≤ x) : x_cd 3 x y = true := by show (!(x_lt x y)) = true; rw [show x_lt x y = false from x_c2f h]; rfl
theorem x_c3f {x y : Int} (h : x < y) : x_cd 3 x y = false := by show (!(x_lt x y)) = false; rw [show x_lt x y = true from x_c2t h]; rfl
theorem x_c4t {x y : Int} (h : y < x) : x_cd 4 x y = true := x_lt_iff.mpr h
theorem x_c4f {x y : Int} (h : x ≤ y) : x_cd 4 x y = false := Bool.eq_false_iff.mpr (fun e => by have := x_lt_iff.mp e; omega)
theorem x_c5t {x y : Int} (h : x ≤ y) : x_cd 5 x y = true := by show (!(x_lt y x)) = true; rw [show x_lt y x = false from x_c4f h]; rfl
theorem x_c5f {x y : Int} (h : y < x) : x_cd 5 x y = false := by show (!(x_lt y x)) = false; rw [show x_lt y x = true from x_c4t h]; rfl
theorem x_sw_e {P : Nat → Nat → Prop} {P2 : Nat → Prop} {dp dj : Nat} {x : Int} (hP : ∀ p j, P p j → P2 p) : ∀ {l : List (Int × Nat × Nat)}, x_sw False x_bsP P dp dj x l → e_sw P2 dp x (l.map fun q => (q.1, q.2.1))
  | [], h => hP _ _ h
  | (k, p, j) :: r, h => by
    unfold x_sw at h
    cases hk : x_li k with
    | false => rw [hk] at h; exact h.elim
    | true =>
      rw [hk, cond_true] at h
      unfold x_bsP x_brP at h
      exact ⟨fun e => hP _ _ (h.1 (x_eq_iff.mpr e)), fun e => x_sw_e hP (h.2 (Bool.eq_false_iff.mpr (fun q => e (x_eq_iff.mp q))))⟩
theorem x_is_ok {n : Nat} (h : x_is n = true) : ∃ i, n = 1000005 + i ∧ i < 29 := by
  unfold x_is at h
  rw [Bool.and_eq_true, Nat.ble_eq, Nat.blt_eq] at h
  exact ⟨n - 1000005, by omega, by omega⟩
theorem x_as_ok {x : Int} (h : x_as x = true) : ∃ b : Nat, x = (b : Int) ∧ b < 128 := by
  unfold x_as at h
  split at h
  · rw [Nat.blt_eq] at h; exact ⟨_, rfl, h⟩
  · cases h
theorem x_bq {m n : Nat} (h : Nat.beq m n = true) : m = n := Nat.eq_of_beq_eq_true h
theorem x_bl {m n : Nat} (h : Nat.blt m n = true) : m < n := by rw [Nat.blt_eq] at h; exact h
theorem x_be {m n : Nat} (h : Nat.ble m n = true) : m ≤ n := Nat.le_of_ble_eq_true h
theorem x_nn {n : Nat} : (0 : Int) ≤ Int.ofNat n := Int.natCast_nonneg n
theorem x_g0 (hstep : ∀ (sh : Nat → Nat × Nat) (rm : Nat × Nat × Nat) (ls st : List e_V) (g : e_G) (cs : Nat × Nat) (Q : Option e_V → e_G → Prop), e_T sh Y rm (pc + a) ls (.inl z :: st) g cs Q → e_T sh Y rm pc ls st g cs Q) : x_ok Y 0 pc a b c z t := by
  intro sh W rm ls st M g cs Q T0 B S0 hS h1 hlen hR c1 c2 h
  replace h : x_s0 False x_brP x_bsP x_arP (x_Kp sh W Y rm Q T0 B) B S0 pc a b c z t ls st M g.2 := h
  unfold x_s0 at h
  replace h := x_brP_t h
  obtain ⟨hc, h⟩ := h
  exact hstep _ _ _ _ _ _ _ (h.2 hlen g cs rfl hR c1 c2)
theorem x_g1 (hstep : ∀ (sh : Nat → Nat × Nat) (rm : Nat × Nat × Nat) (ls st : List e_V) (g : e_G) (cs : Nat × Nat) (Q : Option e_V → e_G → Prop), e_T sh Y rm (pc + a) ls (.inr (.inl z) :: st) g cs Q → e_T sh Y rm pc ls st g cs Q) : x_ok Y 1 pc a b c z t := by
  intro sh W rm ls st M g cs Q T0 B S0 hS h1 hlen hR c1 c2 h
  replace h : x_s1 False x_brP x_bsP x_arP (x_Kp sh W Y rm Q T0 B) B S0 pc a b c z t ls st M g.2 := h
  unfold x_s1 at h
  replace h := x_brP_t h
  obtain ⟨hc, h⟩ := h
  exact hstep _ _ _ _ _ _ _ (h.2 hlen g cs rfl hR c1 c2)
theorem x_g2 (hstep : ∀ (sh : Nat → Nat × Nat) (rm : Nat × Nat × Nat) (ls st : List e_V) (g : e_G) (cs : Nat × Nat) (Q : Option e_V → e_G → Prop) (x : Int), ls[b]? = some (.inl x) → e_T sh Y rm (pc + a) ls (.inl x :: st) g cs Q → e_T sh Y rm pc ls st g cs Q) : x_ok Y 2 pc a b c z t := by
  intro sh W rm ls st M g cs Q T0 B S0 hS h1 hlen hR c1 c2 h
  replace h : x_s2 False x_brP x_bsP x_arP (x_Kp sh W Y rm Q T0 B) B S0 pc a b c z t ls st M g.2 := h
  unfold x_s2 at h
  obtain ⟨x, r, e⟩ := x_eI_b (fun e => by rw [e] at h; exact h)
  rw [e, x_eI_e] at h
  replace e := (List.cons.inj e).1
  have hi := x_get_some e (fun z => by cases z)
  exact hstep _ _ _ _ _ _ _ _ hi (h.2 hlen g cs rfl hR c1 c2)
theorem x_g3 (hstep : ∀ (sh : Nat → Nat × Nat) (rm : Nat × Nat × Nat) (ls st : List e_V) (g : e_G) (cs : Nat × Nat) (Q : Option e_V → e_G → Prop) (x : Int), ls[b]? = some (.inr (.inl x)) → e_T sh Y rm (pc + a) ls (.inr (.inl x) :: st) g cs Q → e_T sh Y rm pc ls st g cs Q) : x_ok Y 3 pc a b c z t := by
  intro sh W rm ls st M g cs Q T0 B S0 hS h1 hlen hR c1 c2 h
  replace h : x_s3 False x_brP x_bsP x_arP (x_Kp sh W Y rm Q T0 B) B S0 pc a b c z t ls st M g.2 := h
  unfold x_s3 at h
  obtain ⟨x, r, e⟩ := x_eL_b (fun e => by rw [e] at h; exact h)
  rw [e, x_eL_e] at h
  replace e := (List.cons.inj e).1
  have hi := x_get_some e (fun z => by cases z)
  exact hstep _ _ _ _ _ _ _ _ hi (h.2 hlen g cs rfl hR c1 c2)
theorem x_g4 (hstep : ∀ (sh : Nat → Nat × Nat) (rm : Nat × Nat × Nat) (ls st : List e_V) (g : e_G) (cs : Nat × Nat) (Q : Option e_V → e_G → Prop) (x : Int), ls[b]? = some (.inr (.inr (.inl x))) → 0 ≤ x → e_T sh Y rm (pc + a) ls (.inr (.inr (.inl x)) :: st) g cs Q → e_T sh Y rm pc ls st g cs Q) : x_ok Y 4 pc a b c z t := by
  intro sh W rm ls st M g cs Q T0 B S0 hS h1 hlen hR c1 c2 h
  replace h : x_s4 False x_brP x_bsP x_arP (x_Kp sh W Y rm Q T0 B) B S0 pc a b c z t ls st M g.2 := h
  unfold x_s4 at h
  obtain ⟨x, r, e, qx⟩ := x_eA_b (fun e => by rw [e] at h; exact h)
  rw [e, x_eA_e qx] at h
  replace e := (List.cons.inj e).1
  have hi := x_get_some e (fun z => by cases z)
  exact hstep _ _ _ _ _ _ _ _ hi x_nn (h.2 hlen g cs rfl hR c1 c2)
theorem x_g5 (hstep : ∀ (sh : Nat → Nat × Nat) (rm : Nat × Nat × Nat) (ls st : List e_V) (g : e_G) (cs : Nat × Nat) (Q : Option e_V → e_G → Prop) (x : Int), e_T sh Y rm (pc + a) (e_s1 ls b (.inl x)) st g cs Q → e_T sh Y rm pc ls (.inl x :: st) g cs Q) : x_ok Y 5 pc a b c z t := by
  intro sh W rm ls st M g cs Q T0 B S0 hS h1 hlen hR c1 c2 h
  replace h : x_s5 False x_brP x_bsP x_arP (x_Kp sh W Y rm Q T0 B) B S0 pc a b c z t ls st M g.2 := h
  unfold x_s5 at h
  obtain ⟨x, r, e⟩ := x_eI_b (fun e => by rw [e] at h; exact h)
  subst e
  rw [x_eI_e] at h
  rw [x_l1_e] at h
  exact hstep _ _ _ _ _ _ _ _ (h.2 (by rw [x_len1]; exact hlen) g cs rfl hR c1 c2)
theorem x_g6 (hstep : ∀ (sh : Nat → Nat × Nat) (rm : Nat × Nat × Nat) (ls st : List e_V) (g : e_G) (cs : Nat × Nat) (Q : Option e_V → e_G → Prop) (x : Int), e_T sh Y rm (pc + a) (e_s2 ls b (.inr (.inl x))) st g cs Q → e_T sh Y rm pc ls (.inr (.inl x) :: st) g cs Q) : x_ok Y 6 pc a b c z t := by
  intro sh W rm ls st M g cs Q T0 B S0 hS h1 hlen hR c1 c2 h
  replace h : x_s6 False x_brP x_bsP x_arP (x_Kp sh W Y rm Q T0 B) B S0 pc a b c z t ls st M g.2 := h
  unfold x_s6 at h
  obtain ⟨x, r, e⟩ := x_eL_b (fun e => by rw [e] at h; exact h)
  subst e
  rw [x_eL_e] at h
  rw [x_l2_e] at h
  exact hstep _ _ _ _ _ _ _ _ (h.2 (by rw [x_len2]; exact hlen) g cs rfl hR c1 c2)
theorem x_g7 (hstep : ∀ (sh : Nat → Nat × Nat) (rm : Nat × Nat × Nat) (ls st : List e_V) (g : e_G) (cs : Nat × Nat) (Q : Option e_V → e_G → Prop) (x : Int), 0 ≤ x → e_T sh Y rm (pc + a) (e_s1 ls b (.inr (.inr (.inl x)))) st g cs Q → e_T sh Y rm pc ls (.inr (.inr (.inl x)) :: st) g cs Q) : x_ok Y 7 pc a b c z t := by
  intro sh W rm ls st M g cs Q T0 B S0 hS h1 hlen hR c1 c2 h
  replace h : x_s7 False x_brP x_bsP x_arP (x_Kp sh W Y rm Q T0 B) B S0 pc a b c z t ls st M g.2 := h
  unfold x_s7 at h
  obtain ⟨x, r, e, qx⟩ := x_eA_b (fun e => by rw [e] at h; exact h)
  subst e
  rw [x_eA_e qx] at h
  rw [x_l1_e] at h
  exact hstep _ _ _ _ _ _ _ _ x_nn (h.2 (by rw [x_len1]; exact hlen) g cs rfl hR c1 c2)
theorem x_g8 (hdg : decode Y.2.1 pc = .ok (.iinc b z, 3)) (hz : e_i32 z) : x_ok Y 8 pc a b c z t := by
  intro sh W rm ls st M g cs Q T0 B S0 hS h1 hlen hR c1 c2 h
  replace h : x_s8 False x_brP x_bsP x_arP (x_Kp sh W Y rm Q T0 B) B S0 pc a b c z t ls st M g.2 := h
  unfold x_s8 at h
  obtain ⟨x, r, e⟩ := x_eI_b (fun e => by rw [e] at h; exact h)
  rw [e, x_eI_e] at h
  replace e := (List.cons.inj e).1
  have hi := x_get_some e (fun z => by cases z)
  replace h := x_brP_t h
  obtain ⟨hc, h⟩ := h
  unfold x_arP at h
  dsimp only at h
  rw [x_l1_e] at h
  exact e_iinc hdg hi hz hlen (h.2 (by rw [x_len1]; exact hlen) g cs rfl hR c1 c2)
theorem x_g9 (hstep : ∀ (sh : Nat → Nat × Nat) (rm : Nat × Nat × Nat) (ls st : List e_V) (g : e_G) (cs : Nat × Nat) (Q : Option e_V → e_G → Prop) (x y : Int), x_ck b y = true → e_T sh Y rm (pc + 1) ls (.inl (x_bf b x y) :: st) g cs Q → e_T sh Y rm pc ls (.inl y :: .inl x :: st) g cs Q) : x_ok Y 9 pc a b c z t := by
  intro sh W rm ls st M g cs Q T0 B S0 hS h1 hlen hR c1 c2 h
  replace h : x_s9 False x_brP x_bsP x_arP (x_Kp sh W Y rm Q T0 B) B S0 pc a b c z t ls st M g.2 := h
  unfold x_s9 at h
  obtain ⟨y, r, e⟩ := x_eI_b (fun e => by rw [e] at h; exact h)
  subst e
  rw [x_eI_e] at h
  obtain ⟨x, r2, e⟩ := x_eI_b (fun e => by rw [e] at h; exact h)
  subst e
  rw [x_eI_e] at h
  replace h := x_brP_t h
  obtain ⟨hc, h⟩ := h
  unfold x_arP at h
  exact hstep _ _ _ _ _ _ _ _ _ hc (h.2 hlen g cs rfl hR c1 c2)
theorem x_g10 (hstep : ∀ (sh : Nat → Nat × Nat) (rm : Nat × Nat × Nat) (ls st : List e_V) (g : e_G) (cs : Nat × Nat) (Q : Option e_V → e_G → Prop) (x y : Int), x_ck b y = true → e_T sh Y rm (pc + 1) ls (.inr (.inl (x_lf b x y)) :: st) g cs Q → e_T sh Y rm pc ls (.inr (.inl y) :: .inr (.inl x) :: st) g cs Q) : x_ok Y 10 pc a b c z t := by
  intro sh W rm ls st M g cs Q T0 B S0 hS h1 hlen hR c1 c2 h
  replace h : x_s10 False x_brP x_bsP x_arP (x_Kp sh W Y rm Q T0 B) B S0 pc a b c z t ls st M g.2 := h
  unfold x_s10 at h
  obtain ⟨y, r, e⟩ := x_eL_b (fun e => by rw [e] at h; exact h)
  subst e
  rw [x_eL_e] at h
  obtain ⟨x, r2, e⟩ := x_eL_b (fun e => by rw [e] at h; exact h)
  subst e
  rw [x_eL_e] at h
  replace h := x_brP_t h
  obtain ⟨hc, h⟩ := h
  unfold x_arP at h
  exact hstep _ _ _ _ _ _ _ _ _ hc (h.2 hlen g cs rfl hR c1 c2)
theorem x_g11 (hstep : ∀ (sh : Nat → Nat × Nat) (rm : Nat × Nat × Nat) (ls st : List e_V) (g : e_G) (cs : Nat × Nat) (Q : Option e_V → e_G → Prop) (x y : Int), e_T sh Y rm (pc + 1) ls (.inr (.inl (x_hf b x y)) :: st) g cs Q → e_T sh Y rm pc ls (.inl y :: .inr (.inl x) :: st) g cs Q) : x_ok Y 11 pc a b c z t := by
  intro sh W rm ls st M g cs Q T0 B S0 hS h1 hlen hR c1 c2 h
  replace h : x_s11 False x_brP x_bsP x_arP (x_Kp sh W Y rm Q T0 B) B S0 pc a b c z t ls st M g.2 := h
  unfold x_s11 at h
  obtain ⟨y, r, e⟩ := x_eI_b (fun e => by rw [e] at h; exact h)
  subst e
  rw [x_eI_e] at h
  obtain ⟨x, r2, e⟩ := x_eL_b (fun e => by rw [e] at h; exact h)
  subst e
  rw [x_eL_e] at h
  unfold x_arP at h
  exact hstep _ _ _ _ _ _ _ _ _ (h.2 hlen g cs rfl hR c1 c2)
theorem x_g12 (hstep : ∀ (sh : Nat → Nat × Nat) (rm : Nat × Nat × Nat) (ls st : List e_V) (g : e_G) (cs : Nat × Nat) (Q : Option e_V → e_G → Prop) (x : Int), e_T sh Y rm (pc + 1) ls (.inl (x_uf b x) :: st) g cs Q → e_T sh Y rm pc ls (.inl x :: st) g cs Q) : x_ok Y 12 pc a b c z t := by
  intro sh W rm ls st M g cs Q T0 B S0 hS h1 hlen hR c1 c2 h
  replace h : x_s12 False x_brP x_bsP x_arP (x_Kp sh W Y rm Q T0 B) B S0 pc a b c z t ls st M g.2 := h
  unfold x_s12 at h
  obtain ⟨x, r, e⟩ := x_eI_b (fun e => by rw [e] at h; exact h)
  subst e
  rw [x_eI_e] at h
  unfold x_arP at h
  exact hstep _ _ _ _ _ _ _ _ (h.2 hlen g cs rfl hR c1 c2)
theorem x_g13 (hdg : decode Y.2.1 pc = .ok (.lneg, 1)) : x_ok Y 13 pc a b c z t := by
  intro sh W rm ls st M g cs Q T0 B S0 hS h1 hlen hR c1 c2 h
  replace h : x_s13 False x_brP x_bsP x_arP (x_Kp sh W Y rm Q T0 B) B S0 pc a b c z t ls st M g.2 := h
  unfold x_s13 at h
  obtain ⟨x, r, e⟩ := x_eL_b (fun e => by rw [e] at h; exact h)
  subst e
  rw [x_eL_e] at h
  unfold x_arP at h
  exact e_lneg_ hdg (h.2 hlen g cs rfl hR c1 c2)
theorem x_g14 (hdg : decode Y.2.1 pc = .ok (.i2l, 1)) : x_ok Y 14 pc a b c z t := by
  intro sh W rm ls st M g cs Q T0 B S0 hS h1 hlen hR c1 c2 h
  replace h : x_s14 False x_brP x_bsP x_arP (x_Kp sh W Y rm Q T0 B) B S0 pc a b c z t ls st M g.2 := h
  unfold x_s14 at h
  obtain ⟨x, r, e⟩ := x_eI_b (fun e => by rw [e] at h; exact h)
  subst e
  rw [x_eI_e] at h
  exact e_i2l_ hdg (h.2 hlen g cs rfl hR c1 c2)
theorem x_g15 (hdg : decode Y.2.1 pc = .ok (.l2i, 1)) : x_ok Y 15 pc a b c z t := by
  intro sh W rm ls st M g cs Q T0 B S0 hS h1 hlen hR c1 c2 h
  replace h : x_s15 False x_brP x_bsP x_arP (x_Kp sh W Y rm Q T0 B) B S0 pc a b c z t ls st M g.2 := h
  unfold x_s15 at h
  obtain ⟨x, r, e⟩ := x_eL_b (fun e => by rw [e] at h; exact h)
  subst e
  rw [x_eL_e] at h
  unfold x_arP at h
  exact e_l2i_ hdg (h.2 hlen g cs rfl hR c1 c2)
theorem x_g16 (hdg : decode Y.2.1 pc = .ok (.lcmp, 1)) : x_ok Y 16 pc a b c z t := by
  intro sh W rm ls st M g cs Q T0 B S0 hS h1 hlen hR c1 c2 h
  replace h : x_s16 False x_brP x_bsP x_arP (x_Kp sh W Y rm Q T0 B) B S0 pc a b c z t ls st M g.2 := h
  unfold x_s16 at h
  obtain ⟨y, r, e⟩ := x_eL_b (fun e => by rw [e] at h; exact h)
  subst e
  rw [x_eL_e] at h
  obtain ⟨x, r2, e⟩ := x_eL_b (fun e => by rw [e] at h; exact h)
  subst e
  rw [x_eL_e] at h
  unfold x_arP at h
  exact e_lcmp_ hdg (h.2 hlen g cs rfl hR c1 c2)
theorem x_mf_min {x y : Int} : x_mf 0 x y = e_min x y := by
  unfold e_min
  show cond (x_lt y x) y x = _
  cases h : x_lt y x with
  | true => rw [if_pos (x_lt_iff.mp h)]; rfl
  | false => rw [if_neg (fun e => by rw [x_lt_iff.mpr e] at h; cases h)]; rfl
theorem x_mf_max {x y : Int} : x_mf 1 x y = e_max x y := by
  unfold e_max
  show cond (x_lt x y) y x = _
  cases h : x_lt x y with
  | true => rw [if_pos (x_lt_iff.mp h)]; rfl
  | false => rw [if_neg (fun e => by rw [x_lt_iff.mpr e] at h; cases h)]; rfl
theorem x_g39 (hstep : ∀ (sh : Nat → Nat × Nat) (rm : Nat × Nat × Nat) (ls st : List e_V) (g : e_G) (cs : Nat × Nat) (Q : Option e_V → e_G → Prop) (x y : Int), 1 ≤ rm.1 → e_cat st ≤ 8 → cs.1 ≤ rm.2.1 → cs.2 ≤ rm.2.2 → e_T sh Y rm (pc + 3) ls (e_val c (x_mf b x y) :: st) g cs Q → e_T sh Y rm pc ls (e_val c y :: e_val c x :: st) g cs Q) : x_ok Y 39 pc a b c z t := by
  intro sh W rm ls st M g cs Q T0 B S0 hS h1 hlen hR c1 c2 h
  replace h : x_s39 False x_brP x_bsP x_arP (x_Kp sh W Y rm Q T0 B) B S0 pc a b c z t ls st M g.2 := h
  unfold x_s39 at h
  obtain ⟨y, r, e, hy⟩ := x_eT_b (fun e => by rw [e] at h; exact h)
  subst e
  rw [x_eT_e hy] at h
  obtain ⟨x, r2, e, hx⟩ := x_eT_b (fun e => by rw [e] at h; exact h)
  subst e
  rw [x_eT_e hx] at h
  replace h := x_brP_t h
  obtain ⟨hc, h⟩ := h
  unfold x_arP at h
  exact hstep _ _ _ _ _ _ _ x y (by omega) (x_be hc) (by have := h.1.1; omega) (by have := h.1.2; omega) (h.2 hlen g cs rfl hR c1 c2)
/-- an instruction without a row -/
theorem x_hole : x_ok Y 47 pc a b c z t := fun _ _ _ _ _ _ _ _ _ _ _ _ _ _ _ _ _ _ h => False.elim h
theorem x_g17 (hstep : ∀ (sh : Nat → Nat × Nat) (rm : Nat × Nat × Nat) (ls st : List e_V) (g : e_G) (cs : Nat × Nat) (Q : Option e_V → e_G → Prop) (x : Int), (x_cd b x 0 = true → e_T sh Y rm a ls st g cs Q) → (x_cd b x 0 = false → e_T sh Y rm (pc + 3) ls st g cs Q) → e_T sh Y rm pc ls (.inl x :: st) g cs Q) : x_ok Y 17 pc a b c z t := by
  intro sh W rm ls st M g cs Q T0 B S0 hS h1 hlen hR c1 c2 h
  replace h : x_s17 False x_brP x_bsP x_arP (x_Kp sh W Y rm Q T0 B) B S0 pc a b c z t ls st M g.2 := h
  unfold x_s17 at h
  obtain ⟨x, r, e⟩ := x_eI_b (fun e => by rw [e] at h; exact h)
  subst e
  rw [x_eI_e] at h
  unfold x_bsP x_brP at h
  exact hstep _ _ _ _ _ _ _ _ (fun e => (h.1 e).2 hlen g cs rfl hR c1 c2) (fun e => (h.2 e).2 hlen g cs rfl hR c1 c2)
theorem x_g18 (hstep : ∀ (sh : Nat → Nat × Nat) (rm : Nat × Nat × Nat) (ls st : List e_V) (g : e_G) (cs : Nat × Nat) (Q : Option e_V → e_G → Prop) (x y : Int), (x_cd b x y = true → e_T sh Y rm a ls st g cs Q) → (x_cd b x y = false → e_T sh Y rm (pc + 3) ls st g cs Q) → e_T sh Y rm pc ls (.inl y :: .inl x :: st) g cs Q) : x_ok Y 18 pc a b c z t := by
  intro sh W rm ls st M g cs Q T0 B S0 hS h1 hlen hR c1 c2 h
  replace h : x_s18 False x_brP x_bsP x_arP (x_Kp sh W Y rm Q T0 B) B S0 pc a b c z t ls st M g.2 := h
  unfold x_s18 at h
  obtain ⟨y, r, e⟩ := x_eI_b (fun e => by rw [e] at h; exact h)
  subst e
  rw [x_eI_e] at h
  obtain ⟨x, r2, e⟩ := x_eI_b (fun e => by rw [e] at h; exact h)
  subst e
  rw [x_eI_e] at h
  unfold x_bsP x_brP at h
  exact hstep _ _ _ _ _ _ _ _ _ (fun e => (h.1 e).2 hlen g cs rfl hR c1 c2) (fun e => (h.2 e).2 hlen g cs rfl hR c1 c2)
theorem x_g19 {off : Int} (hdg : decode Y.2.1 pc = .ok (.goto off, 3)) (ht : (pc : Int) + off = (a : Int)) : x_ok Y 19 pc a b c z t := by
  intro sh W rm ls st M g cs Q T0 B S0 hS h1 hlen hR c1 c2 h
  replace h : x_s19 False x_brP x_bsP x_arP (x_Kp sh W Y rm Q T0 B) B S0 pc a b c z t ls st M g.2 := h
  unfold x_s19 at h
  exact e_goto hdg ht (h.2 hlen g cs rfl hR c1 c2)
theorem x_g20 (hdg : decode Y.2.1 pc = .ok (.dup, 1)) : x_ok Y 20 pc a b c z t := by
  intro sh W rm ls st M g cs Q T0 B S0 hS h1 hlen hR c1 c2 h
  replace h : x_s20 False x_brP x_bsP x_arP (x_Kp sh W Y rm Q T0 B) B S0 pc a b c z t ls st M g.2 := h
  unfold x_s20 at h
  obtain ⟨v, r, e, wv, uv⟩ := x_eS_b (fun e => by rw [e] at h; exact h)
  subst e
  rw [x_eS_e wv uv] at h
  exact e_dup hdg wv (h.2 hlen g cs rfl hR c1 c2)
theorem x_g21 (hdg : decode Y.2.1 pc = .ok (.pop, 1)) : x_ok Y 21 pc a b c z t := by
  intro sh W rm ls st M g cs Q T0 B S0 hS h1 hlen hR c1 c2 h
  replace h : x_s21 False x_brP x_bsP x_arP (x_Kp sh W Y rm Q T0 B) B S0 pc a b c z t ls st M g.2 := h
  unfold x_s21 at h
  obtain ⟨v, r, e, wv, uv⟩ := x_eS_b (fun e => by rw [e] at h; exact h)
  subst e
  rw [x_eS_e wv uv] at h
  exact e_pop hdg wv (h.2 hlen g cs rfl hR c1 c2)
theorem x_g22 (hdg : decode Y.2.1 pc = .ok (.pop2, 1)) : x_ok Y 22 pc a b c z t := by
  intro sh W rm ls st M g cs Q T0 B S0 hS h1 hlen hR c1 c2 h
  replace h : x_s22 False x_brP x_bsP x_arP (x_Kp sh W Y rm Q T0 B) B S0 pc a b c z t ls st M g.2 := h
  unfold x_s22 at h
  obtain ⟨x, r, e⟩ := x_eL_b (fun e => by rw [e] at h; exact h)
  subst e
  rw [x_eL_e] at h
  exact e_pop2 hdg (h.2 hlen g cs rfl hR c1 c2)
theorem x_g23 (hdg : decode Y.2.1 pc = .ok (.dup2, 1)) : x_ok Y 23 pc a b c z t := by
  intro sh W rm ls st M g cs Q T0 B S0 hS h1 hlen hR c1 c2 h
  replace h : x_s23 False x_brP x_bsP x_arP (x_Kp sh W Y rm Q T0 B) B S0 pc a b c z t ls st M g.2 := h
  unfold x_s23 at h
  obtain ⟨v, r, e, wv, uv⟩ := x_eS_b (fun e => by rw [e] at h; exact h)
  subst e
  rw [x_eS_e wv uv] at h
  obtain ⟨u, r2, e, wu, uu⟩ := x_eS_b (fun e => by rw [e] at h; exact h)
  subst e
  rw [x_eS_e wu uu] at h
  exact e_dup2 hdg wv wu (h.2 hlen g cs rfl hR c1 c2)
theorem x_g24 (hstep : ∀ (sh : Nat → Nat × Nat) (rm : Nat × Nat × Nat) (ls st : List e_V) (g : e_G) (cs : Nat × Nat) (Q : Option e_V → e_G → Prop) (x : Int), e_sw (fun p => e_T sh Y rm p ls st g cs Q) a x (t.map fun q => (q.1, q.2.1)) → e_T sh Y rm pc ls (.inl x :: st) g cs Q) : x_ok Y 24 pc a b c z t := by
  intro sh W rm ls st M g cs Q T0 B S0 hS h1 hlen hR c1 c2 h
  replace h : x_s24 False x_brP x_bsP x_arP (x_Kp sh W Y rm Q T0 B) B S0 pc a b c z t ls st M g.2 := h
  unfold x_s24 at h
  obtain ⟨x, r, e⟩ := x_eI_b (fun e => by rw [e] at h; exact h)
  subst e
  rw [x_eI_e] at h
  exact hstep _ _ _ _ _ _ _ _ (x_sw_e (fun p j k => k.2 hlen g cs rfl hR c1 c2) h)
theorem x_g25 (hdg : decode Y.2.1 pc = .ok (.getfield idx, 3)) (hf : e_FL Y.1.cls idx a b) (ht : e_tg a b = c) : x_ok Y 25 pc a b c z t := by
  intro sh W rm ls st M g cs Q T0 B S0 hS h1 hlen hR c1 c2 h
  replace h : x_s25 False x_brP x_bsP x_arP (x_Kp sh W Y rm Q T0 B) B S0 pc a b c z t ls st M g.2 := h
  unfold x_s25 at h
  obtain ⟨n, r, e, qn⟩ := x_eA_b (fun e => by rw [e] at h; exact h)
  subst e
  rw [x_eA_e qn] at h
  rw [x_eO_e] at h
  replace h := x_brP_t h
  obtain ⟨hc, h⟩ := h
  rw [x_fi_eq] at h
  obtain ⟨k0, k1, k2, k3, k4⟩ := x_an5 hc
  obtain ⟨hal, hne⟩ := x_al_ok k0
  obtain ⟨e1, e2⟩ := hR.at hal hne k3
  refine e_getf (a := .ofNat n) hdg hf x_nn (by show (sh n).1 = a; rw [e1]; exact x_bq k1) ?_
  show e_T sh Y rm (pc + 3) ls (e_val (e_tg a b) (g.1 n b) :: r) g cs Q
  rw [ht, e2 b (x_bl k2)]
  exact (h.2 hlen g cs rfl hR c1 c2)
theorem x_g26 (hstep : ∀ (sh : Nat → Nat × Nat) (rm : Nat × Nat × Nat) (ls st : List e_V) (g : e_G) (cs : Nat × Nat) (Q : Option e_V → e_G → Prop) (n : Nat) (x : Int), x_tx c x → n < 1000000 → (sh n).1 = a → e_T sh Y rm (pc + 3) ls st (e_up g.1 n b x, g.2) cs Q → e_T sh Y rm pc ls (e_val c x :: .inr (.inr (.inl (.ofNat n))) :: st) g cs Q) : x_ok Y 26 pc a b c z t := by
  intro sh W rm ls st M g cs Q T0 B S0 hS h1 hlen hR c1 c2 h
  replace h : x_s26 False x_brP x_bsP x_arP (x_Kp sh W Y rm Q T0 B) B S0 pc a b c z t ls st M g.2 := h
  unfold x_s26 at h
  obtain ⟨x, r, e, hx⟩ := x_eT_b (fun e => by rw [e] at h; exact h)
  subst e
  rw [x_eT_e hx] at h
  obtain ⟨n, r2, e, qn⟩ := x_eA_b (fun e => by rw [e] at h; exact h)
  subst e
  rw [x_eA_e qn] at h
  rw [x_eO_e] at h
  replace h := x_brP_t h
  obtain ⟨hc, h⟩ := h
  rw [x_sek_eq] at h
  rw [x_puk_eq] at h
  have k4 := hc
  obtain ⟨k0, hc⟩ := x_an hc
  obtain ⟨k1, hc⟩ := x_an hc
  obtain ⟨k2, k3⟩ := x_an hc
  obtain ⟨hn, hn2⟩ := x_aw_ok k0
  obtain ⟨e1, e2⟩ := hR.at (Or.inl hn) (by omega) k3
  exact hstep _ _ _ _ _ _ _ n x hx hn2 (by rw [e1]; exact x_bq k1) (h.2 hlen (e_up g.1 n b x, g.2) cs rfl (x_R_up hn2 k3 hR) c1 c2)
theorem x_g27 (hstep : ∀ (sh : Nat → Nat × Nat) (rm : Nat × Nat × Nat) (ls st : List e_V) (g : e_G) (cs : Nat × Nat) (Q : Option e_V → e_G → Prop) (i n : Nat), x_ak b (sh n).1 = true → i < (sh n).2 → e_T sh Y rm (pc + 1) ls (e_val c (g.1 n i) :: st) g cs Q → e_T sh Y rm pc ls (.inl (.ofNat i) :: .inr (.inr (.inl (.ofNat n))) :: st) g cs Q) : x_ok Y 27 pc a b c z t := by
  intro sh W rm ls st M g cs Q T0 B S0 hS h1 hlen hR c1 c2 h
  replace h : x_s27 False x_brP x_bsP x_arP (x_Kp sh W Y rm Q T0 B) B S0 pc a b c z t ls st M g.2 := h
  unfold x_s27 at h
  obtain ⟨i, r, e, qi⟩ := x_eN_b (fun e => by rw [e] at h; exact h)
  subst e
  rw [x_eN_e qi] at h
  obtain ⟨n, r2, e, qn⟩ := x_eA_b (fun e => by rw [e] at h; exact h)
  subst e
  rw [x_eA_e qn] at h
  rw [x_eO_e] at h
  replace h := x_brP_t h
  obtain ⟨hc, h⟩ := h
  rw [x_fi_eq] at h
  obtain ⟨k0, k1, k2, k3, k4⟩ := x_an5 hc
  obtain ⟨hal, hne⟩ := x_al_ok k0
  obtain ⟨e1, e2⟩ := hR.at hal hne k3
  refine hstep _ _ _ _ _ _ _ i n (by rw [e1]; exact k1) (by rw [e1]; exact x_bl k2) ?_
  rw [e2 i (x_bl k2)]
  exact (h.2 hlen g cs rfl hR c1 c2)
theorem x_g28 (hstep : ∀ (sh : Nat → Nat × Nat) (rm : Nat × Nat × Nat) (ls st : List e_V) (g : e_G) (cs : Nat × Nat) (Q : Option e_V → e_G → Prop) (i n : Nat) (x : Int), n < 1000000 → x_ak b (sh n).1 = true → i < (sh n).2 → e_T sh Y rm (pc + 1) ls st (e_up g.1 n i x, g.2) cs Q → e_T sh Y rm pc ls (e_val c x :: .inl (.ofNat i) :: .inr (.inr (.inl (.ofNat n))) :: st) g cs Q) : x_ok Y 28 pc a b c z t := by
  intro sh W rm ls st M g cs Q T0 B S0 hS h1 hlen hR c1 c2 h
  replace h : x_s28 False x_brP x_bsP x_arP (x_Kp sh W Y rm Q T0 B) B S0 pc a b c z t ls st M g.2 := h
  unfold x_s28 at h
  obtain ⟨x, r, e, hx⟩ := x_eT_b (fun e => by rw [e] at h; exact h)
  subst e
  rw [x_eT_e hx] at h
  obtain ⟨i, r2, e, qi⟩ := x_eN_b (fun e => by rw [e] at h; exact h)
  subst e
  rw [x_eN_e qi] at h
  obtain ⟨n, r3, e, qn⟩ := x_eA_b (fun e => by rw [e] at h; exact h)
  subst e
  rw [x_eA_e qn] at h
  rw [x_eO_e] at h
  replace h := x_brP_t h
  obtain ⟨hc, h⟩ := h
  rw [x_sek_eq] at h
  rw [x_puk_eq] at h
  obtain ⟨k0, hc⟩ := x_an hc
  obtain ⟨k1, hc⟩ := x_an hc
  obtain ⟨k2, k3⟩ := x_an hc
  obtain ⟨hn, hn2⟩ := x_aw_ok k0
  obtain ⟨e1, e2⟩ := hR.at (Or.inl hn) (by omega) k3
  exact hstep _ _ _ _ _ _ _ i n x hn2 (by rw [e1]; exact k1) (by rw [e1]; exact x_bl k2) (h.2 hlen (e_up g.1 n i x, g.2) cs rfl (x_R_up hn2 k3 hR) c1 c2)
theorem x_g29 (hdg : decode Y.2.1 pc = .ok (.bastore, 1)) : x_ok Y 29 pc a b c z t := by
  intro sh W rm ls st M g cs Q T0 B S0 hS h1 hlen hR c1 c2 h
  replace h : x_s29 False x_brP x_bsP x_arP (x_Kp sh W Y rm Q T0 B) B S0 pc a b c z t ls st M g.2 := h
  unfold x_s29 at h
  obtain ⟨x, r, e⟩ := x_eI_b (fun e => by rw [e] at h; exact h)
  subst e
  rw [x_eI_e] at h
  obtain ⟨i, r2, e, qi⟩ := x_eN_b (fun e => by rw [e] at h; exact h)
  subst e
  rw [x_eN_e qi] at h
  obtain ⟨n, r3, e, qn⟩ := x_eA_b (fun e => by rw [e] at h; exact h)
  subst e
  rw [x_eA_e qn] at h
  rw [x_eO_e] at h
  replace h := x_brP_t h
  obtain ⟨hc, h⟩ := h
  unfold x_arP at h
  dsimp only at h
  rw [x_sek_eq] at h
  rw [x_puk_eq] at h
  obtain ⟨hc1, hc2⟩ := x_an hc
  obtain ⟨hc2, hc3⟩ := x_an hc2
  obtain ⟨hc3, hc4⟩ := x_an hc3
  obtain ⟨hn, hn2⟩ := x_aw_ok hc1
  obtain ⟨e1, e2⟩ := hR.at (Or.inl hn) (by omega) hc4
  have hb : (0 : Int) ≤ Int.ofNat i ∧ Int.ofNat i < ((sh n).2 : Int) := ⟨x_nn, by rw [e1]; have := x_bl hc3; exact Int.ofNat_lt.mpr this⟩
  have k := h.2 hlen (e_up g.1 n i (e_w8 x), g.2) cs rfl (x_R_up hn2 hc4 hR) c1 c2
  rw [Bool.or_eq_true] at hc2
  rcases hc2 with q | q
  · exact e_bast (a := .ofNat n) hdg x_nn hn2 (by show (sh n).1 = 22; rw [e1]; exact x_bq q) hb k
  · obtain ⟨q1, q2⟩ := x_an q
    have hx := x_01_ok q2
    have e8 : e_w8 x = x := e_w8_id (by rcases hx with rfl | rfl <;> omega)
    rw [e8] at k
    exact e_zast (a := .ofNat n) hdg x_nn hn2 (by show (sh n).1 = 21; rw [e1]; exact x_bq q1) hb hx k
theorem x_g30 (hdg : decode Y.2.1 pc = .ok (.aastore, 1)) : x_ok Y 30 pc a b c z t := by
  intro sh W rm ls st M g cs Q T0 B S0 hS h1 hlen hR c1 c2 h
  replace h : x_s30 False x_brP x_bsP x_arP (x_Kp sh W Y rm Q T0 B) B S0 pc a b c z t ls st M g.2 := h
  unfold x_s30 at h
  obtain ⟨x, r, e, qx⟩ := x_eA_b (fun e => by rw [e] at h; exact h)
  subst e
  rw [x_eA_e qx] at h
  obtain ⟨i, r2, e, qi⟩ := x_eN_b (fun e => by rw [e] at h; exact h)
  subst e
  rw [x_eN_e qi] at h
  obtain ⟨n, r3, e, qn⟩ := x_eA_b (fun e => by rw [e] at h; exact h)
  subst e
  rw [x_eA_e qn] at h
  rw [x_eO_e] at h
  rw [x_eO_e] at h
  replace h := x_brP_t h
  obtain ⟨hc, h⟩ := h
  rw [x_sek_eq] at h
  rw [x_puk_eq] at h
  obtain ⟨hc0, hc⟩ := x_an hc
  obtain ⟨hc1, hc2⟩ := x_an hc
  obtain ⟨hc2, hc3⟩ := x_an hc2
  obtain ⟨hc3, hc4⟩ := x_an hc3
  obtain ⟨hn, hn2⟩ := x_aw_ok hc1
  obtain ⟨hal, hne⟩ := x_al_ok hc0
  obtain ⟨e1, e2⟩ := hR.at (Or.inl hn) (by omega) hc4
  have e3 := hR.kd hal hne
  have hb : (0 : Int) ≤ Int.ofNat i ∧ Int.ofNat i < ((sh n).2 : Int) := ⟨x_nn, by rw [e1]; have := x_bl hc3; exact Int.ofNat_lt.mpr this⟩
  have k := h.2 hlen (e_up g.1 n i (.ofNat x), g.2) cs rfl (x_R_up hn2 hc4 hR) c1 c2
  obtain ⟨q1, q2⟩ := x_an hc2
  obtain ⟨q2, q3⟩ := x_an q2
  exact e_aast (a := .ofNat n) (v := .ofNat x) (kd := (x_rd B M n).1) hdg x_nn hn2 (by show (sh n).1 = _; rw [e1]) (x_be q1) hb x_nn (by show (sh x).1 = _; rw [e3]; exact x_bq q3) (x_bl q2) k
theorem x_g31 (hdg : decode Y.2.1 pc = .ok (.arraylength, 1)) : x_ok Y 31 pc a b c z t := by
  intro sh W rm ls st M g cs Q T0 B S0 hS h1 hlen hR c1 c2 h
  replace h : x_s31 False x_brP x_bsP x_arP (x_Kp sh W Y rm Q T0 B) B S0 pc a b c z t ls st M g.2 := h
  unfold x_s31 at h
  obtain ⟨n, r, e, qn⟩ := x_eA_b (fun e => by rw [e] at h; exact h)
  subst e
  rw [x_eA_e qn] at h
  rw [x_eO_e] at h
  replace h := x_brP_t h
  obtain ⟨hc, h⟩ := h
  obtain ⟨hc1, hc2⟩ := x_an hc
  obtain ⟨hc2, hc3⟩ := x_an hc2
  obtain ⟨hal, hne⟩ := x_al_ok hc1
  have e1 := hR.kd hal hne
  refine e_alen (a := .ofNat n) (kd := (x_rd B M n).1) hdg x_nn (by show (sh n).1 = _; rw [e1]) (x_be hc2) (by show (sh n).2 < _; rw [e1]; exact x_bl hc3) ?_
  show e_T sh Y rm (pc + 1) ls (.inl (((sh n).2 : Nat) : Int) :: r) g cs Q
  rw [e1]
  exact (h.2 hlen g cs rfl hR c1 c2)
theorem x_g32 (hdg : decode Y.2.1 pc = .ok (.new idx, 3)) (hf : e_NL Y.1.cls idx a) (hN : e_num a = b) (ha : a < 13) : x_ok Y 32 pc a b c z t := by
  intro sh W rm ls st M g cs Q T0 B S0 hS h1 hlen hR c1 c2 h
  replace h : x_s32 False x_brP x_bsP x_arP (x_Kp sh W Y rm Q T0 B) B S0 pc a b c z t ls st M g.2 := h
  unfold x_s32 at h
  replace h := x_brP_t h
  obtain ⟨hc, h⟩ := h
  rw [x_puk_eq] at h
  rw [x_fn_eq] at h
  obtain ⟨hc1, hc2⟩ := x_an hc
  have ht := x_bl hc2
  have e1 : sh g.2 = (a, b) := by rw [← hS g.2 ht]; exact x_sk_ok hc1
  have r1 : cs.1 + 1 ≤ rm.2.1 := by have := h.1.1; omega
  have e2 : x_sl sh (g.2 + 1) = x_sl sh g.2 + b := by show x_sl sh g.2 + (sh g.2).2 = _; rw [e1]
  have r2 : cs.2 + b ≤ rm.2.2 := by have := h.1.2; rw [e2] at this; omega
  exact e_new hdg hf e1 hN ht r1 r2 (h.2 hlen (e_nw g.1 g.2 (e_df a), g.2 + 1) (cs.1 + 1, cs.2 + b) rfl (x_R_nw ht rfl e1 (fun k hk => (x_tms_ok a ha k (by rw [hN]; exact hk)).symm) hR) (by show cs.1 + 1 + T0 = g.2 + 1; omega) (by show cs.2 + b + _ = _; rw [e2]; omega))
theorem x_g33 (hz : x_li z = true) (hstep : ∀ (sh : Nat → Nat × Nat) (rm : Nat × Nat × Nat) (ls st : List e_V) (g : e_G) (cs : Nat × Nat) (Q : Option e_V → e_G → Prop) (n : Nat), sh g.2 = (a, n) → n ≤ 100000 → g.2 < 1000000 → cs.1 + 1 ≤ rm.2.1 → cs.2 + n ≤ rm.2.2 → e_T sh Y rm (pc + b) ls (.inr (.inr (.inl (.ofNat g.2))) :: st) (e_nw g.1 g.2 (fun _ => z), g.2 + 1) (cs.1 + 1, cs.2 + n) Q → e_T sh Y rm pc ls (.inl (.ofNat n) :: st) g cs Q) : x_ok Y 33 pc a b c z t := by
  intro sh W rm ls st M g cs Q T0 B S0 hS h1 hlen hR c1 c2 h
  replace h : x_s33 False x_brP x_bsP x_arP (x_Kp sh W Y rm Q T0 B) B S0 pc a b c z t ls st M g.2 := h
  unfold x_s33 at h
  obtain ⟨n, r, e, qn⟩ := x_eN_b (fun e => by rw [e] at h; exact h)
  subst e
  rw [x_eN_e qn] at h
  replace h := x_brP_t h
  obtain ⟨hc, h⟩ := h
  rw [x_puk_eq] at h
  rw [x_fn_eq] at h
  obtain ⟨hc1, hc2⟩ := x_an hc
  obtain ⟨hc2, hc3⟩ := x_an hc2
  have ht := x_bl hc3
  have e1 : sh g.2 = (a, n) := by rw [← hS g.2 ht]; exact x_sk_ok hc1
  have r1 : cs.1 + 1 ≤ rm.2.1 := by have := h.1.1; omega
  have e2 : x_sl sh (g.2 + 1) = x_sl sh g.2 + n := by show x_sl sh g.2 + (sh g.2).2 = _; rw [e1]
  have r2 : cs.2 + n ≤ rm.2.2 := by have := h.1.2; rw [e2] at this; omega
  exact hstep _ _ _ _ _ _ _ n e1 (x_be hc2) ht r1 r2 (h.2 hlen (e_nw g.1 g.2 (fun _ => z), g.2 + 1) (cs.1 + 1, cs.2 + n) rfl (x_R_nw ht hz e1 (fun k _ => x_get_nil.symm) hR) (by show cs.1 + 1 + T0 = g.2 + 1; omega) (by show cs.2 + n + _ = _; rw [e2]; omega))
theorem x_g34 (hdg : decode Y.2.1 pc = .ok (.invokespecial idx, 3)) (hl : Cond.methodLink Y.1.cls idx Lib.objectInit ∈ e_gd) : x_ok Y 34 pc a b c z t := by
  intro sh W rm ls st M g cs Q T0 B S0 hS h1 hlen hR c1 c2 h
  replace h : x_s34 False x_brP x_bsP x_arP (x_Kp sh W Y rm Q T0 B) B S0 pc a b c z t ls st M g.2 := h
  unfold x_s34 at h
  obtain ⟨n, r, e, qn⟩ := x_eA_b (fun e => by rw [e] at h; exact h)
  subst e
  rw [x_eA_e qn] at h
  replace h := x_brP_t h
  obtain ⟨hc, h⟩ := h
  obtain rfl := List.isEmpty_iff.mp hc
  exact e_obj (a := .ofNat n) hdg hl ow1 ow2 x_nn rfl (by omega) (h.2 hlen g cs rfl hR c1 c2)
theorem x_g38 (hstep : ∀ (sh : Nat → Nat × Nat) (rm : Nat × Nat × Nat) (ls st : List e_V) (g : e_G) (cs : Nat × Nat) (Q : Option e_V → e_G → Prop), sh b = (15, b - 1000004) → e_T sh Y rm (pc + a) ls (.inr (.inr (.inl (.ofNat b))) :: st) g cs Q → e_T sh Y rm pc ls st g cs Q) : x_ok Y 38 pc a b c z t := by
  intro sh W rm ls st M g cs Q T0 B S0 hS h1 hlen hR c1 c2 h
  replace h : x_s38 False x_brP x_bsP x_arP (x_Kp sh W Y rm Q T0 B) B S0 pc a b c z t ls st M g.2 := h
  unfold x_s38 at h
  rw [x_eO_e] at h
  replace h := x_brP_t h
  obtain ⟨hc, h⟩ := h
  obtain ⟨q1, hc⟩ := x_an hc
  obtain ⟨q2, q3⟩ := x_an hc
  obtain ⟨i, e, hi⟩ := x_is_ok q1
  have e3 := hR.kd (a := b) (Or.inr ⟨by omega, by omega⟩) (by omega)
  exact hstep _ _ _ _ _ _ _ (by rw [e3]; exact Prod.ext (x_bq q2) (by have := x_bq q3; show (x_rd B M b).2.1 = _; omega)) (h.2 hlen g cs rfl hR c1 c2)
theorem x_g35 (hstep : ∀ (sh : Nat → Nat × Nat) (rm : Nat × Nat × Nat) (ls st : List e_V) (g : e_G) (cs : Nat × Nat) (Q : Option e_V → e_G → Prop), e_T sh Y rm (pc + a) ls (.inr (.inr (.inl (.ofNat b))) :: st) g cs Q → e_T sh Y rm pc ls st g cs Q) : x_ok Y 35 pc a b c z t := by
  intro sh W rm ls st M g cs Q T0 B S0 hS h1 hlen hR c1 c2 h
  replace h : x_s35 False x_brP x_bsP x_arP (x_Kp sh W Y rm Q T0 B) B S0 pc a b c z t ls st M g.2 := h
  unfold x_s35 at h
  replace h := x_brP_t h
  obtain ⟨hc, h⟩ := h
  exact hstep _ _ _ _ _ _ _ (h.2 hlen g cs rfl hR c1 c2)
theorem x_iconst (hdg : decode Y.2.1 pc = .ok (.iconst z, 1)) (hz : e_i32 z) : x_ok Y 0 pc 1 b c z t := x_g0 fun _ _ _ _ _ _ _ k => e_iconst hdg hz k
theorem x_bipush (hdg : decode Y.2.1 pc = .ok (.bipush z, 2)) (hz : -128 ≤ z ∧ z < 128) : x_ok Y 0 pc 2 b c z t := x_g0 fun _ _ _ _ _ _ _ k => e_bipush hdg hz k
theorem x_sipush (hdg : decode Y.2.1 pc = .ok (.sipush z, 3)) (hz : -32768 ≤ z ∧ z < 32768) : x_ok Y 0 pc 3 b c z t := x_g0 fun _ _ _ _ _ _ _ k => e_sipush hdg hz k
theorem x_ldc {z32 : Int32} (hdg : decode Y.2.1 pc = .ok (.ldc idx, 2)) (hw : Cond.constant Y.1.cls idx z32 ∈ e_gd) (hq : z32 = Int32.ofInt z) (hz : e_i32 z) : x_ok Y 0 pc 2 b c z t := x_g0 fun _ _ _ _ _ _ _ k => e_ldc hdg hw hq hz k
theorem x_ldcw {z32 : Int32} (hdg : decode Y.2.1 pc = .ok (.ldc_w idx, 3)) (hw : Cond.constant Y.1.cls idx z32 ∈ e_gd) (hq : z32 = Int32.ofInt z) (hz : e_i32 z) : x_ok Y 0 pc 3 b c z t := x_g0 fun _ _ _ _ _ _ _ k => e_ldcw hdg hw hq hz k
theorem x_ldc2 {z64 : Int64} (hdg : decode Y.2.1 pc = .ok (.ldc2_w idx, 3)) (hw : Cond.constantLong Y.1.cls idx z64 ∈ e_gd) (hq : z64 = Int64.ofInt z) (hz : e_i64 z) : x_ok Y 1 pc 3 b c z t := x_g1 fun _ _ _ _ _ _ _ k => e_ldc2 hdg hw hq hz k
theorem x_lconst {n : Fin 2} (hdg : decode Y.2.1 pc = .ok (.lconst n, 1)) (hz : ((n : Nat) : Int) = z) : x_ok Y 1 pc 1 b c z t := x_g1 fun _ _ _ _ _ _ _ k => e_lconst hdg hz k
theorem x_iload (hdg : decode Y.2.1 pc = .ok (.iload b, 2)) : x_ok Y 2 pc 2 b c z t := x_g2 fun _ _ _ _ _ _ _ x hi k => e_iload hdg hi k
theorem x_iload_n {n : Fin 4} (hdg : decode Y.2.1 pc = .ok (.iload_n n, 1)) (hb : (n : Nat) = b) : x_ok Y 2 pc 1 b c z t := x_g2 fun _ _ _ _ _ _ _ x hi k => e_iload_n hdg (by rw [hb]; exact hi) k
theorem x_lload (hdg : decode Y.2.1 pc = .ok (.lload b, 2)) : x_ok Y 3 pc 2 b c z t := x_g3 fun _ _ _ _ _ _ _ x hi k => e_lload hdg hi k
theorem x_lload_n {n : Fin 4} (hdg : decode Y.2.1 pc = .ok (.lload_n n, 1)) (hb : (n : Nat) = b) : x_ok Y 3 pc 1 b c z t := x_g3 fun _ _ _ _ _ _ _ x hi k => e_lload_n hdg (by rw [hb]; exact hi) k
theorem x_aload (hdg : decode Y.2.1 pc = .ok (.aload b, 2)) : x_ok Y 4 pc 2 b c z t := x_g4 fun _ _ _ _ _ _ _ x hi h0 k => e_aload hdg hi h0 k
theorem x_aload_n {n : Fin 4} (hdg : decode Y.2.1 pc = .ok (.aload_n n, 1)) (hb : (n : Nat) = b) : x_ok Y 4 pc 1 b c z t := x_g4 fun _ _ _ _ _ _ _ x hi h0 k => e_aload_n hdg (by rw [hb]; exact hi) h0 k
theorem x_istore (hdg : decode Y.2.1 pc = .ok (.istore b, 2)) (hb : b < Y.2.2.1) : x_ok Y 5 pc 2 b c z t := x_g5 fun _ _ _ _ _ _ _ x k => e_istore hdg hb k
theorem x_istore_n {n : Fin 4} (hdg : decode Y.2.1 pc = .ok (.istore_n n, 1)) (hn : (n : Nat) = b) (hb : b < Y.2.2.1) : x_ok Y 5 pc 1 b c z t := x_g5 fun _ _ _ _ _ _ _ x k => e_istore_n hdg (by rw [hn]; exact hb) (by rw [hn]; exact k)
theorem x_lstore (hdg : decode Y.2.1 pc = .ok (.lstore b, 2)) (hb : b + 1 < Y.2.2.1) : x_ok Y 6 pc 2 b c z t := x_g6 fun _ _ _ _ _ _ _ x k => e_lstore hdg hb k
theorem x_lstore_n {n : Fin 4} (hdg : decode Y.2.1 pc = .ok (.lstore_n n, 1)) (hn : (n : Nat) = b) (hb : b + 1 < Y.2.2.1) : x_ok Y 6 pc 1 b c z t := x_g6 fun _ _ _ _ _ _ _ x k => e_lstore_n hdg (by rw [hn]; exact hb) (by rw [hn]; exact k)
theorem x_astore (hdg : decode Y.2.1 pc = .ok (.astore b, 2)) (hb : b < Y.2.2.1) : x_ok Y 7 pc 2 b c z t := x_g7 fun _ _ _ _ _ _ _ x h0 k => e_astore hdg hb h0 k
theorem x_astore_n {n : Fin 4} (hdg : decode Y.2.1 pc = .ok (.astore_n n, 1)) (hn : (n : Nat) = b) (hb : b < Y.2.2.1) : x_ok Y 7 pc 1 b c z t := x_g7 fun _ _ _ _ _ _ _ x h0 k => e_astore_n hdg (by rw [hn]; exact hb) h0 (by rw [hn]; exact k)
theorem x_iadd (hdg : decode Y.2.1 pc = .ok (.iadd, 1)) : x_ok Y 9 pc a 0 c z t := x_g9 fun _ _ _ _ _ _ _ x y hc k => e_iadd hdg k
theorem x_isub (hdg : decode Y.2.1 pc = .ok (.isub, 1)) : x_ok Y 9 pc a 1 c z t := x_g9 fun _ _ _ _ _ _ _ x y hc k => e_isub hdg k
theorem x_imul (hdg : decode Y.2.1 pc = .ok (.imul, 1)) : x_ok Y 9 pc a 2 c z t := x_g9 fun _ _ _ _ _ _ _ x y hc k => e_imul hdg k
theorem x_idiv (hdg : decode Y.2.1 pc = .ok (.idiv, 1)) : x_ok Y 9 pc a 3 c z t := x_g9 fun _ _ _ _ _ _ _ x y hc k => e_idiv hdg (x_nz_ok (x_an hc).1) k
theorem x_irem (hdg : decode Y.2.1 pc = .ok (.irem, 1)) : x_ok Y 9 pc a 4 c z t := x_g9 fun _ _ _ _ _ _ _ x y hc k => e_irem hdg (x_nz_ok (x_an hc).1) k
theorem x_iand (hdg : decode Y.2.1 pc = .ok (.iand, 1)) : x_ok Y 9 pc a 5 c z t := x_g9 fun _ _ _ _ _ _ _ x y hc k => e_iand hdg k
theorem x_ior (hdg : decode Y.2.1 pc = .ok (.ior, 1)) : x_ok Y 9 pc a 6 c z t := x_g9 fun _ _ _ _ _ _ _ x y hc k => e_ior hdg k
theorem x_ixor (hdg : decode Y.2.1 pc = .ok (.ixor, 1)) : x_ok Y 9 pc a 7 c z t := x_g9 fun _ _ _ _ _ _ _ x y hc k => e_ixor hdg k
theorem x_ishl (hdg : decode Y.2.1 pc = .ok (.ishl, 1)) : x_ok Y 9 pc a 8 c z t := x_g9 fun _ _ _ _ _ _ _ x y hc k => e_ishl hdg k
theorem x_ishr (hdg : decode Y.2.1 pc = .ok (.ishr, 1)) : x_ok Y 9 pc a 9 c z t := x_g9 fun _ _ _ _ _ _ _ x y hc k => e_ishr hdg k
theorem x_ladd (hdg : decode Y.2.1 pc = .ok (.ladd, 1)) : x_ok Y 10 pc a 0 c z t := x_g10 fun _ _ _ _ _ _ _ x y hc k => e_ladd hdg k
theorem x_lsub (hdg : decode Y.2.1 pc = .ok (.lsub, 1)) : x_ok Y 10 pc a 1 c z t := x_g10 fun _ _ _ _ _ _ _ x y hc k => e_lsub hdg k
theorem x_lmul (hdg : decode Y.2.1 pc = .ok (.lmul, 1)) : x_ok Y 10 pc a 2 c z t := x_g10 fun _ _ _ _ _ _ _ x y hc k => e_lmul hdg k
theorem x_ldiv (hdg : decode Y.2.1 pc = .ok (.ldiv, 1)) : x_ok Y 10 pc a 3 c z t := x_g10 fun _ _ _ _ _ _ _ x y hc k => e_ldiv hdg (x_nz_ok (x_an hc).1) k
theorem x_lrem (hdg : decode Y.2.1 pc = .ok (.lrem, 1)) : x_ok Y 10 pc a 4 c z t := x_g10 fun _ _ _ _ _ _ _ x y hc k => e_lrem hdg (x_nz_ok (x_an hc).1) k
theorem x_land (hdg : decode Y.2.1 pc = .ok (.land, 1)) : x_ok Y 10 pc a 5 c z t := x_g10 fun _ _ _ _ _ _ _ x y hc k => e_land hdg k
theorem x_lor (hdg : decode Y.2.1 pc = .ok (.lor, 1)) : x_ok Y 10 pc a 6 c z t := x_g10 fun _ _ _ _ _ _ _ x y hc k => e_lor hdg k
theorem x_lxor (hdg : decode Y.2.1 pc = .ok (.lxor, 1)) : x_ok Y 10 pc a 7 c z t := x_g10 fun _ _ _ _ _ _ _ x y hc k => e_lxor hdg k
theorem x_lshl (hdg : decode Y.2.1 pc = .ok (.lshl, 1)) : x_ok Y 11 pc a 0 c z t := x_g11 fun _ _ _ _ _ _ _ x y k => e_lshl hdg k
theorem x_lshr (hdg : decode Y.2.1 pc = .ok (.lshr, 1)) : x_ok Y 11 pc a 1 c z t := x_g11 fun _ _ _ _ _ _ _ x y k => e_lshr hdg k
theorem x_lushr (hdg : decode Y.2.1 pc = .ok (.lushr, 1)) : x_ok Y 11 pc a 2 c z t := x_g11 fun _ _ _ _ _ _ _ x y k => e_lushr hdg k
theorem x_ineg (hdg : decode Y.2.1 pc = .ok (.ineg, 1)) : x_ok Y 12 pc a 0 c z t := x_g12 fun _ _ _ _ _ _ _ x k => e_ineg_ hdg k
theorem x_i2b (hdg : decode Y.2.1 pc = .ok (.i2b, 1)) : x_ok Y 12 pc a 1 c z t := x_g12 fun _ _ _ _ _ _ _ x k => e_i2b_ hdg k
theorem x_if_eq {off : Int} (hdg : decode Y.2.1 pc = .ok (.ifCond .eq off, 3)) (ht : (pc : Int) + off = (a : Int)) : x_ok Y 17 pc a 0 c z t := x_g17 fun _ _ _ _ _ _ _ x kt kf => e_if_eq hdg ht (fun e => kt (x_c0t e)) (fun e => kf (x_c0f e))
theorem x_icmp_eq {off : Int} (hdg : decode Y.2.1 pc = .ok (.if_icmp .eq off, 3)) (ht : (pc : Int) + off = (a : Int)) : x_ok Y 18 pc a 0 c z t := x_g18 fun _ _ _ _ _ _ _ x y kt kf => e_icmp_eq hdg ht (fun e => kt (x_c0t e)) (fun e => kf (x_c0f e))
theorem x_if_ne {off : Int} (hdg : decode Y.2.1 pc = .ok (.ifCond .ne off, 3)) (ht : (pc : Int) + off = (a : Int)) : x_ok Y 17 pc a 1 c z t := x_g17 fun _ _ _ _ _ _ _ x kt kf => e_if_ne hdg ht (fun e => kt (x_c1t e)) (fun e => kf (x_c1f e))
theorem x_icmp_ne {off : Int} (hdg : decode Y.2.1 pc = .ok (.if_icmp .ne off, 3)) (ht : (pc : Int) + off = (a : Int)) : x_ok Y 18 pc a 1 c z t := x_g18 fun _ _ _ _ _ _ _ x y kt kf => e_icmp_ne hdg ht (fun e => kt (x_c1t e)) (fun e => kf (x_c1f e))
theorem x_if_lt {off : Int} (hdg : decode Y.2.1 pc = .ok (.ifCond .lt off, 3)) (ht : (pc : Int) + off = (a : Int)) : x_ok Y 17 pc a 2 c z t := x_g17 fun _ _ _ _ _ _ _ x kt kf => e_if_lt hdg ht (fun e => kt (x_c2t e)) (fun e => kf (x_c2f e))
theorem x_icmp_lt {off : Int} (hdg : decode Y.2.1 pc = .ok (.if_icmp .lt off, 3)) (ht : (pc : Int) + off = (a : Int)) : x_ok Y 18 pc a 2 c z t := x_g18 fun _ _ _ _ _ _ _ x y kt kf => e_icmp_lt hdg ht (fun e => kt (x_c2t e)) (fun e => kf (x_c2f e))
theorem x_if_ge {off : Int} (hdg : decode Y.2.1 pc = .ok (.ifCond .ge off, 3)) (ht : (pc : Int) + off = (a : Int)) : x_ok Y 17 pc a 3 c z t := x_g17 fun _ _ _ _ _ _ _ x kt kf => e_if_ge hdg ht (fun e => kt (x_c3t e)) (fun e => kf (x_c3f e))
theorem x_icmp_ge {off : Int} (hdg : decode Y.2.1 pc = .ok (.if_icmp .ge off, 3)) (ht : (pc : Int) + off = (a : Int)) : x_ok Y 18 pc a 3 c z t := x_g18 fun _ _ _ _ _ _ _ x y kt kf => e_icmp_ge hdg ht (fun e => kt (x_c3t e)) (fun e => kf (x_c3f e))
theorem x_if_gt {off : Int} (hdg : decode Y.2.1 pc = .ok (.ifCond .gt off, 3)) (ht : (pc : Int) + off = (a : Int)) : x_ok Y 17 pc a 4 c z t := x_g17 fun _ _ _ _ _ _ _ x kt kf => e_if_gt hdg ht (fun e => kt (x_c4t e)) (fun e => kf (x_c4f e))
theorem x_icmp_gt {off : Int} (hdg : decode Y.2.1 pc = .ok (.if_icmp .gt off, 3)) (ht : (pc : Int) + off = (a : Int)) : x_ok Y 18 pc a 4 c z t := x_g18 fun _ _ _ _ _ _ _ x y kt kf => e_icmp_gt hdg ht (fun e => kt (x_c4t e)) (fun e => kf (x_c4f e))
theorem x_if_le {off : Int} (hdg : decode Y.2.1 pc = .ok (.ifCond .le off, 3)) (ht : (pc : Int) + off = (a : Int)) : x_ok Y 17 pc a 5 c z t := x_g17 fun _ _ _ _ _ _ _ x kt kf => e_if_le hdg ht (fun e => kt (x_c5t e)) (fun e => kf (x_c5f e))
theorem x_icmp_le {off : Int} (hdg : decode Y.2.1 pc = .ok (.if_icmp .le off, 3)) (ht : (pc : Int) + off = (a : Int)) : x_ok Y 18 pc a 5 c z t := x_g18 fun _ _ _ _ _ _ _ x y kt kf => e_icmp_le hdg ht (fun e => kt (x_c5t e)) (fun e => kf (x_c5f e))
theorem x_tsw {dflt lo hi : Int} {offs : Array Int} {len : Nat} (hdg : decode Y.2.1 pc = .ok (.tableswitch dflt lo hi offs, len)) (hd : (pc : Int) + dflt = (a : Int)) (hn : lo + offs.toList.length = hi + 1) (hz : ∀ o ∈ offs.toList, 0 ≤ (pc : Int) + o) (hl : e_tab pc lo offs.toList = t.map fun q => (q.1, q.2.1)) : x_ok Y 24 pc a b c z t := x_g24 fun _ _ _ _ _ _ _ x k => e_tsw hdg hd hn hz hl k
theorem x_lsw {dflt : Int} {ps : Array (Int × Int)} {len : Nat} (hdg : decode Y.2.1 pc = .ok (.lookupswitch dflt ps, len)) (hp : (ps.toList.zip (ps.toList.drop 1)).all (fun (a, next) => a.1 < next.1) = true) (hd : (pc : Int) + dflt = (a : Int)) (hz : ∀ q ∈ ps.toList, 0 ≤ (pc : Int) + q.2) (hl : e_lkp pc ps.toList = t.map fun q => (q.1, q.2.1)) : x_ok Y 24 pc a b c z t := x_g24 fun _ _ _ _ _ _ _ x k => e_lsw hdg hp hd hz hl k
theorem x_putf (hdg : decode Y.2.1 pc = .ok (.putfield idx, 3)) (hf : e_FL Y.1.cls idx a b) (hfin : ∀ q, e_cl[a]? = some q → (q.2.1 b).2.2.2 = false) (ht : e_tg a b = c) : x_ok Y 26 pc a b c z t := x_g26 fun _ _ _ _ _ _ _ n x hx hn hs k => e_putf (a := .ofNat n) hdg hf hfin (by rw [ht]) (fun e => by
    rw [ht] at e
    rcases hx with h | h | h | h
    · omega
    · exact h.2
    · omega
    · have := h.1; omega) (fun e => by
    rw [ht] at e
    rcases hx with h | h | h | h
    · omega
    · have := h.1; omega
    · omega
    · have := h.1; omega) x_nn hn hs k
theorem x_iaload (hdg : decode Y.2.1 pc = .ok (.iaload, 1)) : x_ok Y 27 pc a 0 0 z t := x_g27 fun _ _ _ _ _ _ _ i n hk hi k => e_iald (a := .ofNat n) hdg x_nn (x_bq hk) ⟨x_nn, Int.ofNat_lt.mpr hi⟩ k
theorem x_laload (hdg : decode Y.2.1 pc = .ok (.laload, 1)) : x_ok Y 27 pc a 1 3 z t := x_g27 fun _ _ _ _ _ _ _ i n hk hi k => e_lald (a := .ofNat n) hdg x_nn (x_bq hk) ⟨x_nn, Int.ofNat_lt.mpr hi⟩ k
theorem x_aaload (hdg : decode Y.2.1 pc = .ok (.aaload, 1)) : x_ok Y 27 pc a 3 4 z t := x_g27 fun _ _ _ _ _ _ _ i n hk hi k => e_aald (a := .ofNat n) (kd := _) hdg x_nn rfl (x_be hk) ⟨x_nn, Int.ofNat_lt.mpr hi⟩ k
theorem x_baload (hdg : decode Y.2.1 pc = .ok (.baload, 1)) : x_ok Y 27 pc a 2 0 z t := x_g27 fun sh _ _ _ _ _ _ i n hk hi k => by
    rcases (Bool.or_eq_true _ _ ▸ hk : Nat.beq (sh n).1 22 = true ∨ Nat.beq (sh n).1 21 = true) with q | q
    · exact e_bald (a := .ofNat n) hdg x_nn (x_bq q) ⟨x_nn, Int.ofNat_lt.mpr hi⟩ k
    · exact e_zald (a := .ofNat n) hdg x_nn (x_bq q) ⟨x_nn, Int.ofNat_lt.mpr hi⟩ k
theorem x_iastore (hdg : decode Y.2.1 pc = .ok (.iastore, 1)) : x_ok Y 28 pc a 0 0 z t := x_g28 fun _ _ _ _ _ _ _ i n x hn hk hi k => e_iast (a := .ofNat n) hdg x_nn hn (x_bq hk) ⟨x_nn, Int.ofNat_lt.mpr hi⟩ k
theorem x_lastore (hdg : decode Y.2.1 pc = .ok (.lastore, 1)) : x_ok Y 28 pc a 1 3 z t := x_g28 fun _ _ _ _ _ _ _ i n x hn hk hi k => e_last (a := .ofNat n) hdg x_nn hn (x_bq hk) ⟨x_nn, Int.ofNat_lt.mpr hi⟩ k
theorem x_mminI (hdg : decode Y.2.1 pc = .ok (.invokestatic idx, 3)) (hl : Cond.methodLink Y.1.cls idx Lib.Math.min.name ∈ e_gd) (hs : Cond.static Lib.Math.min.name ∈ e_gd) (hi : Cond.initialized "java/lang/Math" ∈ e_gd) (hcd : Cond.code Lib.Math.min.name Lib.Math.min.code 2 (some .int) ∈ e_gd) : x_ok Y 39 pc a 0 0 z t := x_g39 fun _ _ _ _ _ _ _ x y r1 r2 r3 r4 k => e_mmin hdg hl hs hi hcd r1 r2 r3 r4 (by rw [← x_mf_min]; exact k)
theorem x_mmaxI (hdg : decode Y.2.1 pc = .ok (.invokestatic idx, 3)) (hl : Cond.methodLink Y.1.cls idx Lib.Math.max.name ∈ e_gd) (hs : Cond.static Lib.Math.max.name ∈ e_gd) (hi : Cond.initialized "java/lang/Math" ∈ e_gd) (hcd : Cond.code Lib.Math.max.name Lib.Math.max.code 2 (some .int) ∈ e_gd) : x_ok Y 39 pc a 1 0 z t := x_g39 fun _ _ _ _ _ _ _ x y r1 r2 r3 r4 k => e_mmax hdg hl hs hi hcd r1 r2 r3 r4 (by rw [← x_mf_max]; exact k)
theorem x_mminJ (hdg : decode Y.2.1 pc = .ok (.invokestatic idx, 3)) (hl : Cond.methodLink Y.1.cls idx Lib.MathLoose.min_long.x ∈ e_gd) (hs : Cond.static Lib.MathLoose.min_long.x ∈ e_gd) (hi : Cond.initialized "java/lang/Math" ∈ e_gd) (hcd : Cond.code Lib.MathLoose.min_long.x Lib.MathLoose.min_long.code 4 (some .long) ∈ e_gd) : x_ok Y 39 pc a 0 3 z t := x_g39 fun _ _ _ _ _ _ _ x y r1 r2 r3 r4 k => e_mminL hdg hl hs hi hcd r1 r2 r3 r4 (by rw [← x_mf_min]; exact k)
theorem x_mmaxJ (hdg : decode Y.2.1 pc = .ok (.invokestatic idx, 3)) (hl : Cond.methodLink Y.1.cls idx Lib.MathLoose.max_long.x ∈ e_gd) (hs : Cond.static Lib.MathLoose.max_long.x ∈ e_gd) (hi : Cond.initialized "java/lang/Math" ∈ e_gd) (hcd : Cond.code Lib.MathLoose.max_long.x Lib.MathLoose.max_long.code 4 (some .long) ∈ e_gd) : x_ok Y 39 pc a 1 3 z t := x_g39 fun _ _ _ _ _ _ _ x y r1 r2 r3 r4 k => e_mmaxL hdg hl hs hi hcd r1 r2 r3 r4 (by rw [← x_mf_max]; exact k)
theorem x_new_int (hdg : decode Y.2.1 pc = .ok (.newarray .int, 2)) : x_ok Y 33 pc 20 2 c 0 t := x_g33 rfl fun _ _ _ _ _ _ _ n hs hN ht r1 r2 k => e_newI hdg awI hs hN ht r1 r2 k
theorem x_new_long (hdg : decode Y.2.1 pc = .ok (.newarray .long, 2)) : x_ok Y 33 pc 23 2 c 0 t := x_g33 rfl fun _ _ _ _ _ _ _ n hs hN ht r1 r2 k => e_newJ hdg awJ hs hN ht r1 r2 k
theorem x_new_byte (hdg : decode Y.2.1 pc = .ok (.newarray .byte, 2)) : x_ok Y 33 pc 22 2 c 0 t := x_g33 rfl fun _ _ _ _ _ _ _ n hs hN ht r1 r2 k => e_newB hdg awB hs hN ht r1 r2 k
theorem x_new_boolean (hdg : decode Y.2.1 pc = .ok (.newarray .boolean, 2)) : x_ok Y 33 pc 21 2 c 0 t := x_g33 rfl fun _ _ _ _ _ _ _ n hs hN ht r1 r2 k => e_newZ hdg awZ hs hN ht r1 r2 k
theorem x_newQ {kd : Nat} {C : String} (hdg : decode Y.2.1 pc = .ok (.anewarray idx, 3)) (hq : e_cl[kd]?.map (fun q => q.1) = some C) (hw : Cond.classLink Y.1.cls idx C ∈ e_gd) (hC9 : C = "LandHouse$Deed" ∨ C = "LandHouse$Lot" ∨ C = "LandHouse$Thing") (ha : a = 30 + kd) : x_ok Y 33 pc a 3 c (-1) t := x_g33 rfl fun _ _ _ _ _ _ _ n hs hN ht r1 r2 k => e_newQ hdg hq hw hC9 (by rw [← ha]; exact hs) hN ht r1 r2 k
theorem x_gets {j : Nat} {q : String × String} (hdg : decode Y.2.1 pc = .ok (.getstatic idx, 3)) (hq : e_stat[j]? = some q) (hw : Cond.fieldLink Y.1.cls idx q.1 q.2 "[I" ∈ e_gd) (hb : b = 1000001 + j) : x_ok Y 35 pc 3 b c z t := x_g35 fun _ _ _ _ _ _ _ k => e_gets hdg hq hw (by rw [hb] at k; exact k)
theorem x_getsN {j : Nat} {q : String × String} {host : String} (hdg : decode Y.2.1 pc = .ok (.getstatic idx, 3)) (hq : e_stat[j]? = some q) (hw : Cond.fieldLinkNest Y.1.cls idx q.1 q.2 "[I" host ∈ e_nest) (hb : b = 1000001 + j) : x_ok Y 35 pc 3 b c z t := x_g35 fun _ _ _ _ _ _ _ k => e_getsN hdg hq hw (by rw [hb] at k; exact k)
theorem x_g36 (hdg : decode Y.2.1 pc = .ok (.invokevirtual idx, 3)) (hl : Cond.methodLink Y.1.cls idx YJ0_length_8abf5.1 ∈ e_gd) : x_ok Y 36 pc a b c z t := by
  intro sh W rm ls st M g cs Q T0 B S0 hS h1 hlen hR c1 c2 h
  replace h : x_s36 False x_brP x_bsP x_arP (x_Kp sh W Y rm Q T0 B) B S0 pc a b c z t ls st M g.2 := h
  unfold x_s36 at h
  obtain ⟨n, r, e, qn⟩ := x_eA_b (fun e => by rw [e] at h; exact h)
  subst e
  rw [x_eA_e qn] at h
  rw [x_eO_e] at h
  rw [x_eO_e] at h
  replace h := x_brP_t h
  obtain ⟨hc, h⟩ := h
  obtain ⟨q1, hc⟩ := x_an hc
  obtain ⟨q2, hc⟩ := x_an hc
  obtain ⟨q3, hc⟩ := x_an hc
  obtain ⟨q4, hc⟩ := x_an hc
  obtain ⟨q5, q6⟩ := x_an hc
  obtain ⟨i, rfl, hi⟩ := x_is_ok q1
  have e3 := hR.kd (a := 1000005 + i + 29) (Or.inr ⟨by omega, by omega⟩) (by omega)
  rw [show 1000005 + i + 29 = 1000034 + i by omega] at *
  have k := (h.2 hlen g cs rfl hR c1 c2)
  have e4 : (sh (1000034 + i)).2 = (x_rd B M (1000034 + i)).2.1 := by rw [e3]
  exact e_slength hdg hl hi (by rw [e3]; exact x_bq q4) (by rw [e4]; exact x_bl q5) h1 (by have := h.1.1; omega) (by have := h.1.2; omega) (x_be q6) (by rw [e4]; exact k)
theorem x_g37 (hdg : decode Y.2.1 pc = .ok (.invokevirtual idx, 3)) (hl : Cond.methodLink Y.1.cls idx YJ0_charAt_5068e.1 ∈ e_gd) : x_ok Y 37 pc a b c z t := by
  intro sh W rm ls st M g cs Q T0 B S0 hS h1 hlen hR c1 c2 h
  replace h : x_s37 False x_brP x_bsP x_arP (x_Kp sh W Y rm Q T0 B) B S0 pc a b c z t ls st M g.2 := h
  unfold x_s37 at h
  obtain ⟨i, r, e, qi⟩ := x_eN_b (fun e => by rw [e] at h; exact h)
  subst e
  rw [x_eN_e qi] at h
  obtain ⟨n, r2, e, qn⟩ := x_eA_b (fun e => by rw [e] at h; exact h)
  subst e
  rw [x_eA_e qn] at h
  rw [x_eO_e] at h
  rw [x_eO_e] at h
  replace h := x_brP_t h
  obtain ⟨hc, h⟩ := h
  rw [x_fi_eq] at h
  obtain ⟨q1, hc⟩ := x_an hc
  obtain ⟨q2, hc⟩ := x_an hc
  obtain ⟨q3, hc⟩ := x_an hc
  obtain ⟨q4, hc⟩ := x_an hc
  obtain ⟨q5, hc⟩ := x_an hc
  obtain ⟨q6, hc⟩ := x_an hc
  obtain ⟨q9, hc⟩ := x_an hc
  obtain ⟨q7, q8⟩ := x_an hc
  obtain ⟨j, rfl, hi⟩ := x_is_ok q1
  obtain ⟨e3, e5⟩ := hR.at (a := 1000005 + j + 29) (Or.inr ⟨by omega, by omega⟩) (by omega) q9
  rw [show 1000005 + j + 29 = 1000034 + j by omega] at *
  have k := (h.2 hlen g cs rfl hR c1 c2)
  have e4 : (sh (1000034 + j)).2 = (x_rd B M (1000034 + j)).2.1 := by rw [e3]
  obtain ⟨b, hb, hb2⟩ := x_as_ok q7
  rw [hb] at k
  exact e_scharAt hdg hl hi (by rw [e3]; exact x_bq q4) (by rw [e4]; exact x_bl q5) (by rw [e4]; exact x_bl q6) ((e5 i (x_bl q5)).trans hb) hb2 h1 (by have := h.1.1; omega) (by have := h.1.2; omega) (x_be q8) k
theorem x_ldcS {i : Nat} {tx : String} (hdg : decode Y.2.1 pc = .ok (.ldc idx, 2)) (hm : (Y.1.cls, idx, tx, i) ∈ e_strl) (hi : i < 29) (hb : b = 1000005 + i) : x_ok Y 38 pc 2 b c z t := x_g38 (fun _ _ _ _ _ _ _ hs k => e_ldcS hdg hm hi (by rw [← hb, hs]; exact Prod.ext rfl (by show b - 1000004 = i + 1; omega)) (by rw [hb] at k; exact k))
theorem x_putF (hdg : decode Y.2.1 pc = .ok (.putfield idx, 3)) (hf : e_FL Y.1.cls idx a b) (hfin : ∀ q, e_cl[a]? = some q → (q.2.1 b).2.2.2 = true ∧ (q.2.1 b).1 = Y.1.cls) (hnm : Y.1.name = "<init>") (ht : e_tg a b = c) : x_ok Y 26 pc a b c z t := x_g26 fun _ _ _ _ _ _ _ n x hx hn hs k => e_putF (a := .ofNat n) hdg hf hfin hnm (by rw [ht]) (fun e => by
    rw [ht] at e
    rcases hx with h | h | h | h
    · omega
    · exact h.2
    · omega
    · have := h.1; omega) (fun e => by
    rw [ht] at e
    rcases hx with h | h | h | h
    · omega
    · have := h.1; omega
    · omega
    · have := h.1; omega) x_nn hn hs k
end SOUND
