/-! THE MODEL: an OPTION takes a SALE -/
/-- the share of one, found by name -/
def o_lk : s_Own → Int → Option (Int × Int)
  | [], _ => none
  | x :: l, p => if x.1 = p then some x.2 else o_lk l p
theorem o_lk_fd : ∀ {l : s_Own} {p : Int}, (∀ q, 0 ≤ o_fd l p → l[(o_fd l p).toNat]? = some q → o_lk l p = some q.2) ∧ (¬ 0 ≤ o_fd l p → o_lk l p = none)
  | [], p => ⟨(fun q _ h => by cases h), fun _ => rfl⟩
  | x :: l, p => by
    obtain ⟨i1, i2⟩ := o_lk_fd (l := l) (p := p)
    show (∀ q, 0 ≤ o_fd (x :: l) p → (x :: l)[(o_fd (x :: l) p).toNat]? = some q → (if x.1 = p then some x.2 else o_lk l p) = some q.2) ∧ (¬ 0 ≤ o_fd (x :: l) p → (if x.1 = p then some x.2 else o_lk l p) = none)
    by_cases c : x.1 = p
    · have e : o_fd (x :: l) p = ((0 : Nat) : Int) := r_find_at (i := 0) (by show some x.1 = some p; rw [c]) (fun j hj => by omega)
      rw [e, if_pos c]
      refine ⟨fun q _ h => ?_, fun h => absurd h (by omega)⟩
      have : some x = some q := h
      rw [Option.some.inj this]
    · rw [if_neg c]
      rcases r_find_cases (l.map (fun q => q.1)) p with ⟨n1, n2⟩ | ⟨i, h1, h2, h3, h4⟩
      · have e : o_fd (x :: l) p = -1 := r_find_no (fun m => by
          rcases List.mem_cons.mp (show p ∈ x.1 :: l.map (fun q => q.1) from m) with m | m
          · exact c m.symm
          · exact n1 m)
        have e2 : o_fd l p = -1 := n2
        rw [e]
        exact ⟨fun q h => absurd h (by omega), fun _ => i2 (by omega)⟩
      · have e : o_fd (x :: l) p = ((i + 1 : Nat) : Int) := r_find_at (i := i + 1) (show (x.1 :: l.map (fun q => q.1))[i + 1]? = some p from h2) (fun j hj => by
          cases j with
          | zero => exact fun z => c (Option.some.inj z)
          | succ j => exact h3 j (by omega))
        have e2 : o_fd l p = (i : Int) := h4
        rw [e2] at i1
        rw [e]
        refine ⟨fun q _ h => i1 q (by omega) ?_, fun h => absurd h (by omega)⟩
        exact h
theorem o_has_lk {l : s_Own} {p t b : Int} : o_has l p t b ↔ ∃ q, o_lk l p = some q ∧ t * q.2 ≤ q.1 * b := by
  constructor
  · intro ⟨q, h1, h2, h3⟩
    exact ⟨q.2, o_lk_fd.1 q h2 h1, h3⟩
  · intro ⟨q, h1, h2⟩
    by_cases c : 0 ≤ o_fd l p
    · have lt := o_fd_lt (l := l) (p := p)
      have hg := List.getElem?_eq_getElem (l := l) (i := (o_fd l p).toNat) (by omega)
      have := o_lk_fd.1 _ c hg
      rw [h1] at this
      have e := Option.some.inj this
      rw [e] at h2
      exact ⟨_, hg, c, h2⟩
    · rw [o_lk_fd.2 c] at h1; cases h1
theorem o_lk_erase {p : Int} : ∀ {l : s_Own} {i : Nat}, (∀ x, l[i]? = some x → x.1 ≠ p) → o_lk (l.eraseIdx i) p = o_lk l p
  | [], _, _ => rfl
  | x :: l, 0, h => by
    show o_lk l p = if x.1 = p then some x.2 else o_lk l p
    rw [if_neg (h x rfl)]
  | x :: l, i + 1, h => by
    show (if x.1 = p then some x.2 else o_lk (l.eraseIdx i) p) = if x.1 = p then some x.2 else o_lk l p
    rw [o_lk_erase (l := l) (i := i) (fun y hy => h y hy)]
theorem o_lk_set {p : Int} {y : Int × Int × Int} (hy : y.1 ≠ p) : ∀ {l : s_Own} {i : Nat}, (∀ x, l[i]? = some x → x.1 ≠ p) → o_lk (l.set i y) p = o_lk l p
  | [], _, _ => rfl
  | x :: l, 0, h => by
    show (if y.1 = p then some y.2 else o_lk l p) = if x.1 = p then some x.2 else o_lk l p
    rw [if_neg (h x rfl), if_neg hy]
  | x :: l, i + 1, h => by
    show (if x.1 = p then some x.2 else o_lk (l.set i y) p) = if x.1 = p then some x.2 else o_lk l p
    rw [o_lk_set hy (l := l) (i := i) (fun z hz => h z hz)]
theorem o_lk_sub {l : s_Own} {p p' t b : Int} (h : 0 ≤ o_fd l p) (ne : p' ≠ p) : o_lk (o_sub l (o_fd l p).toNat t b) p' = o_lk l p' := by
  unfold o_sub
  cases e : l[(o_fd l p).toNat]? with
  | none => rfl
  | some x =>
    have xp := o_fd_at h e
    have hx : ∀ y, l[(o_fd l p).toNat]? = some y → y.1 ≠ p' := fun y hy => by
      rw [e] at hy
      rw [← Option.some.inj hy, xp]; exact fun z => ne z.symm
    dsimp only
    split
    · exact o_lk_erase hx
    · exact o_lk_set (by rw [xp]; exact fun z => ne z.symm) hx
theorem o_has_sub {l : s_Own} {p p' t b t' b' : Int} (h : 0 ≤ o_fd l p) (ne : p' ≠ p) : o_has (o_sub l (o_fd l p).toNat t b) p' t' b' ↔ o_has l p' t' b' := by
  rw [o_has_lk, o_has_lk, o_lk_sub h ne]
/-- what several give: one after another, or all at once -/
theorem o_tko_all : ∀ {gs : List (Int × Int × Int)} {o : s_Own}, (gs.map (fun g => g.1)).Nodup → (o_tko gs o ↔ ∀ g ∈ gs, o_has o g.1 g.2.1 g.2.2)
  | [], _, _ => ⟨(fun _ g hg => by cases hg), fun _ => trivial⟩
  | g :: gs, o, hn => by
    obtain ⟨n1, n2⟩ := List.nodup_cons.mp (show (g.1 :: gs.map (fun g => g.1)).Nodup from hn)
    have ih := o_tko_all (gs := gs) (o := o_sub o (o_fd o g.1).toNat g.2.1 g.2.2) n2
    have ne : ∀ g' ∈ gs, g'.1 ≠ g.1 := fun g' hg e => n1 (by rw [← e]; exact List.mem_map_of_mem hg)
    constructor
    · intro ⟨h1, h2⟩ g' hg
      rcases List.mem_cons.mp hg with e | hg
      · rw [e]; exact h1
      · obtain ⟨_, _, k, _⟩ := h1
        exact (o_has_sub k (ne g' hg)).mp (ih.mp h2 g' hg)
    · intro h
      have h1 := h g List.mem_cons_self
      obtain ⟨_, _, k, _⟩ := id h1
      exact ⟨h1, ih.mpr (fun g' hg => (o_has_sub k (ne g' hg)).mpr (h g' (List.mem_cons_of_mem _ hg)))⟩
theorem o_tkf_snoc {g : Int × Int × Int} : ∀ {gs : List (Int × Int × Int)} {o : s_Own}, o_tkf (gs ++ [g]) o = o_sub (o_tkf gs o) (o_fd (o_tkf gs o) g.1).toNat g.2.1 g.2.2
  | [], _ => rfl
  | _ :: gs, _ => o_tkf_snoc (gs := gs)
theorem o_tkf_mem {q : Int × Int × Int} : ∀ {gs : List (Int × Int × Int)} {o : s_Own}, o_tko gs o → (∀ g ∈ gs, q.1 ≠ g.1) → q ∈ o_tkf gs o → q ∈ o
  | [], _, _, _, h => h
  | g :: gs, o, ⟨⟨x, h1, h2, h3⟩, hk⟩, hn, h => by
    have := o_tkf_mem (gs := gs) hk (fun g' hg => hn g' (List.mem_cons_of_mem _ hg)) h
    exact o_sub_mem (p := g.1) (fun y hy => o_fd_at h2 hy) this (hn g List.mem_cons_self)
theorem o_tkf_len : ∀ {gs : List (Int × Int × Int)} {o : s_Own}, (o_tkf gs o).length ≤ o.length
  | [], _ => Nat.le_refl _
  | _ :: gs, _ => Nat.le_trans (o_tkf_len (gs := gs)) o_sub_len
theorem o_tkf_has {g : Int × Int × Int} : ∀ {gs : List (Int × Int × Int)} {o : s_Own}, o_tko gs o → (∀ g' ∈ gs, g.1 ≠ g'.1) → (o_has (o_tkf gs o) g.1 g.2.1 g.2.2 ↔ o_has o g.1 g.2.1 g.2.2)
  | [], _, _, _ => Iff.rfl
  | g0 :: gs, o, ⟨⟨x, h1, h2, h3⟩, hk⟩, hn => by
    exact (o_tkf_has (gs := gs) hk (fun g' hg => hn g' (List.mem_cons_of_mem _ hg))).trans (o_has_sub h2 (hn g0 List.mem_cons_self))
theorem o_tko_take {n : Nat} : ∀ {gs : List (Int × Int × Int)} {o : s_Own} (n : Nat), o_tko gs o → o_tko (gs.take n) o
  | _, _, 0, _ => trivial
  | [], _, _ + 1, _ => trivial
  | _ :: gs, _, n + 1, ⟨h1, h2⟩ => ⟨h1, o_tko_take (gs := gs) (n := n) n h2⟩
/-- a share in lowest terms or not: the same is taken off -/
theorem o_sub_red {l : s_Own} {i : Nat} {t b : Int} (hb : 0 < b) (hl : ∀ q ∈ l, 0 < q.2.2) : o_sub l i t b = o_sub l i (s_red t b).1 (s_red t b).2 := by
  obtain ⟨e1, e2⟩ := s_red_back (a := t) hb
  have hg := s_gcd_pos (a := t) (b := b)
  have hp := s_red_pos (a := t) hb
  unfold o_sub
  cases e : l[i]? with
  | none => rfl
  | some x =>
    have hx := hl x (List.mem_of_getElem? e)
    dsimp only
    have : s_red (x.2.1 * b - t * x.2.2) (x.2.2 * b) = s_red (x.2.1 * (s_red t b).2 - (s_red t b).1 * x.2.2) (x.2.2 * (s_red t b).2) := by
      generalize (s_red t b).1 = u at *
      generalize (s_red t b).2 = v at *
      generalize s_gcd t b = g at *
      have k1 : x.2.1 * b - t * x.2.2 = g * (x.2.1 * v - u * x.2.2) := by
        rw [e1, e2, Int.mul_sub, Int.mul_left_comm, Int.mul_assoc]
      have k2 : x.2.2 * b = g * (x.2.2 * v) := by rw [e2, Int.mul_left_comm]
      rw [k1, k2]
      exact s_red_scale hg (Int.mul_pos hx hp)
    rw [this]
theorem o_has_red {l : s_Own} {p t b : Int} (hb : 0 < b) : o_has l p t b ↔ o_has l p (s_red t b).1 (s_red t b).2 := by
  obtain ⟨e1, e2⟩ := s_red_back (a := t) hb
  have hg := s_gcd_pos (a := t) (b := b)
  have key : ∀ q : Int × Int × Int, t * q.2.2 ≤ q.2.1 * b ↔ (s_red t b).1 * q.2.2 ≤ q.2.1 * (s_red t b).2 := fun q => by
    generalize (s_red t b).1 = u at *
    generalize (s_red t b).2 = v at *
    generalize s_gcd t b = g at *
    have k1 : t * q.2.2 = g * (u * q.2.2) := by rw [e1, Int.mul_assoc]
    have k2 : q.2.1 * b = g * (q.2.1 * v) := by rw [e2, Int.mul_left_comm]
    rw [k1, k2]
    exact ⟨fun h => Int.le_of_mul_le_mul_left h hg, fun h => Int.mul_le_mul_of_nonneg_left h (by omega)⟩
  constructor
  · intro ⟨q, h1, h2, h3⟩
    exact ⟨q, h1, h2, (key q).mp h3⟩
  · intro ⟨q, h1, h2, h3⟩
    exact ⟨q, h1, h2, (key q).mpr h3⟩
theorem o_tkf_pos : ∀ {gs : List (Int × Int × Int)} {o : s_Own}, (∀ g ∈ gs, 0 < g.2.2) → (∀ q ∈ o, 0 < q.2.2) → ∀ q ∈ o_tkf gs o, 0 < q.2.2
  | [], _, _, h => h
  | g :: gs, o, hg, h => o_tkf_pos (gs := gs) (fun g' h' => hg g' (List.mem_cons_of_mem _ h')) (fun q hq => by
    unfold o_sub at hq
    cases e : o[(o_fd o g.1).toNat]? with
    | none => rw [e] at hq; exact h q hq
    | some x =>
      rw [e] at hq
      dsimp only at hq
      split at hq
      · exact h q (List.mem_of_mem_eraseIdx hq)
      · rcases List.mem_or_eq_of_mem_set hq with hq | hq
        · exact h q hq
        · rw [hq]; exact s_red_pos (Int.mul_pos (h x (List.mem_of_getElem? e)) (hg g List.mem_cons_self)))
/-- one SALE changed on both sides -/
theorem R_sput {V : Nat → v_D} {S : w_S} {N N' : n_S} {a : Int} {k : Nat} {x : w_T} {y : n_X} (hR : R_S V S N a) (hz : R_z S) (hk : (k : Int) < S.1 7) (hx : R_sale V x y) (h1 : y.1 1 = (N.2.2.2.2.1 k).1 1 ∧ x.1 1 = (w_t S 7 k).1 1) (e : N' = (N.1, N.2.1, N.2.2.1, N.2.2.2.1, s_fu N.2.2.2.2.1 k y, N.2.2.2.2.2)) : R_S V (w_setT S (w_F 7 + k) x) N' a := by
  subst e
  obtain ⟨a1, a2, a3, a4, a5, a6, a7, a8, a9, b1, b2, b3, b4⟩ := hR
  have him := R_lt hz (show 7 < 8 by omega) hk
  have wt : ∀ r j : Nat, 1 ≤ r → r < 8 → (j : Int) < S.1 r → w_t (w_setT S (w_F 7 + k) x) r j = if r = 7 ∧ j = k then x else w_t S r j := fun r j r1 r8 hj => w_t_set (by omega) ⟨r1, r8⟩ him (R_lt hz r8 hj)
  have nt : ∀ j : Nat, (s_fu N.2.2.2.2.1 k y j).1 1 = (N.2.2.2.2.1 j).1 1 := fun j => by
    by_cases c : j = k
    · rw [c, s_fu_eq]; exact h1.1
    · rw [s_fu_ne c]
  have ct : ∀ j : Nat, (j : Int) < S.1 7 → (w_t (w_setT S (w_F 7 + k) x) 7 j).1 1 = (w_t S 7 j).1 1 := fun j hj => by
    rw [wt 7 j (by omega) (by omega) hj]
    by_cases c : j = k
    · rw [if_pos ⟨rfl, c⟩, c]; exact h1.2
    · rw [if_neg (fun z => c z.2)]
  refine ⟨a1, a2, a3, fun j hj => ?_, fun r j r2 r6 hj => ?_, fun j hj => ?_, fun j hj => ?_, fun j i hj hi => ?_, fun c j hc hj => ?_, fun r j r1 r8 hj => ?_, b2, fun j hj => ?_, b4⟩
  · rw [wt 1 j (by omega) (by omega) hj, if_neg (by omega)]; exact a4 j hj
  · rw [wt r j (by omega) (by omega) hj, if_neg (by omega)]; exact a5 r j r2 r6 hj
  · rw [wt 3 j (by omega) (by omega) hj, if_neg (by omega)]; exact a6 j hj
  · rw [wt 7 j (by omega) (by omega) hj]
    show R_sale V _ (s_fu N.2.2.2.2.1 k y j)
    by_cases c : j = k
    · rw [if_pos ⟨rfl, c⟩, c, s_fu_eq]; exact hx
    · rw [if_neg (fun z => c z.2), s_fu_ne c]; exact a7 j hj
  · show _ < (s_fu N.2.2.2.2.1 k y j).1 1 ↔ _
    rw [ct j hj, nt j, wt 6 i (by omega) (by omega) hi, if_neg (by omega)]; exact a8 j i hj hi
  · rw [wt 4 j (by omega) (by omega) hj, wt 2 c (by omega) (by omega) hc, if_neg (by omega), if_neg (by omega)]; exact a9 c j hc hj
  · by_cases c : r = 7
    · subst c
      rw [ct j hj]; exact b1 7 j r1 r8 hj
    · rw [wt r j r1 r8 hj, if_neg (fun z => c z.1)]; exact b1 r j r1 r8 hj
  · show (s_fu N.2.2.2.2.1 k y j).1 1 < _
    rw [nt j]; exact b3 j hj
/-- what is known of a SALE, by its value -/
def x_sok (V : Nat → v_D) (S : w_S) (t : w_T) : Prop := (0 ≤ t.1 4 ∧ t.1 4 ≤ 219144) ∧ (0 ≤ t.1 12 ∧ t.1 12 ≤ 1000000) ∧ (0 < t.1 13 ∧ t.1 13 ≤ 1000000) ∧ s_lw (t.1 12, t.1 13) ∧ d_pok (V (t.1 11).toNat).2.2.2.1 ∧ t.2.2.length = (V (t.1 11).toNat).2.2.2.1.length ∧ t.2.2.Nodup ∧ (0 ≤ r_get t.2.1 0 ∧ r_get t.2.1 0 < S.1 0)
theorem o_gs_fst {T B : Int} : ∀ {row : List Int} {ps : List (Int × Int)}, row.length = ps.length → (o_gs row T B ps).map (fun g => g.1) = row
  | [], [], _ => rfl
  | [], _ :: _, h => by cases h
  | _ :: _, [], h => by cases h
  | b :: row, p :: ps, h => by
    show b :: (o_gs row T B ps).map (fun g => g.1) = b :: row
    rw [o_gs_fst (row := row) (ps := ps) (Nat.succ.inj h)]
theorem o_gs_at {T B : Int} {row : List Int} {ps : List (Int × Int)} {i : Nat} {b : Int} {p : Int × Int} (h1 : row[i]? = some b) (h2 : ps[i]? = some p) : (o_gs row T B ps)[i]? = some (b, T * p.1, B * p.2) := by
  unfold o_gs
  rw [List.getElem?_zipWith, h1, h2]
theorem o_gs_len {T B : Int} {row : List Int} {ps : List (Int × Int)} (h : row.length = ps.length) : (o_gs row T B ps).length = row.length := by
  unfold o_gs
  rw [List.length_zipWith, ← h, Nat.min_self]
theorem m_take {M : e_M} {V : Nat → v_D} {S : w_S} {a : Int} {d : Nat} {r : Nat → Int} {Q : Int → e_M → Prop} (h : R_all M V S a) (i0 : M 4520 0 = r 0) (h0 : 0 ≤ r 0 ∧ r 0 < S.1 6) (t0 : w_thr S 6 (r 0).toNat = true) (hdd : (V d).1 4 = S.2.2.2) (hlive : ∀ l ∈ (w_t S 6 (r 0).toNat).2.1, (w_l S l.toNat).1 1 = 0) (hsok : ∀ k : Nat, (k : Int) < S.1 7 → x_sok V S (w_t S 7 k)) (hq : j_q M V a Q (X_take V S r d)) : WX12_take M Q := by
  obtain ⟨hn, hc, hR, hz, hg, hd⟩ := id h
  obtain ⟨o, e0⟩ : ∃ o : Nat, r 0 = o := ⟨(r 0).toNat, by omega⟩
  have to : (r 0).toNat = o := by omega
  have hoi : (o : Int) < S.1 6 := by omega
  rw [to] at t0 hlive
  have o80 := R_mx hz (show 6 < 7 by omega) hoi
  have z7 := hz 7 (by omega)
  have m7 : w_mx 7 = 60 := rfl
  have rb := R_rows (s := 6) hR (by omega) hoi t0
  obtain ⟨-, c1, -, -, -, c5, -⟩ := n_c (M := M) (t := 80 * 6 + o) (by omega)
  have ew := R_who (s := 6) hR (by omega) hoi t0
  have hrt := (hg.2 6 o (by omega) (by omega) hoi).1
  have hwho : 0 ≤ (w_t S 6 o).1 5 ∧ (w_t S 6 o).1 5 < S.1 1 := ⟨hrt.2 (by omega) (by omega), hrt.1⟩
  obtain ⟨p, ep⟩ : ∃ p : Nat, (w_t S 6 o).1 5 = p := ⟨((w_t S 6 o).1 5).toNat, by omega⟩
  have hpi : (p : Int) < S.1 1 := by omega
  have p80 := R_mx hz (show 1 < 7 by omega) hpi
  have hww := (hg.2 1 p (by omega) (by omega) hpi).1.1
  have erow : ((n_of M).2.1 (80 * 6 + o)).2.1 = (w_t S 6 o).2.1 := (rb.2.2.2.1 (by omega)).1
  have jk := (hn.2.1 (80 * 6 + o) (by omega)).1
  have erw : j_row M 4492 4493 (80 * 6 + o) = (w_t S 6 o).2.1 := by rw [(n_r (M := M) (t := 80 * 6 + o) (by omega)).1, erow]
  have tt : (((80 * 6 + o : Nat)) : Int).toNat = 80 * 6 + o := by omega
  have e73 : M 4456 73 = S.1 7 := hR.1.2
  have q2 : w_abl S p = false → j_q M V a Q (2, S) := fun g => j_qx (c_if_pos (by rw [to, ep]; exact g)) hq
  have q9 : w_abl S p = true → w_lat S (w_t S 6 o) S.2.2.2 (-1) → j_q M V a Q (9, S) := fun g1 g2 => j_qx ((c_if_neg (b_tf (by rw [to, ep]; exact g1))).trans (c_if_pos (by rw [to, hdd]; exact g2))) hq
  have qk : w_abl S p = true → ∀ k : Nat, w_lat S (w_t S 6 o) S.2.2.2 k → j_q M V a Q (X_take2 V S (w_t S 6 o) k) := fun g1 k g2 => by
    have e1 : X_take V S r d = X_take2 V S (w_t S 6 o) k := (c_if_neg (b_tf (by rw [to, ep]; exact g1))).trans ((c_if_neg (by rw [to, hdd]; exact fun z => by have := w_lat_un g2 z; omega)).trans (by rw [to, hdd, w_lat_eps g2]))
    rw [← e1]; exact hq
  unfold WX12_take VX12_take
  rw [show (0 : Int).toNat = 0 from rfl, i0, e0, R_day hR]
  refine ⟨by omega, m_idt (t := 80 * 6 + o) (by omega) (by omega) (by omega) ?_⟩
  rw [tt, c5, ew, ep]
  refine ⟨by omega, m_isAble hc hR hz hd hpi hww (fun ab => ⟨fun _ => ?_, fun z => by omega⟩) (fun ab => ⟨fun z => absurd rfl z, fun _ => j_q_no h (q2 ab)⟩)⟩
  replace q9 := q9 ab
  replace qk := qk ab
  rw [e73, s_w (x := S.1 7 - 1) (by omega) (by omega)]
  refine ⟨_, s_iter (σ := Int) (P := fun dd x => WX12_take_40 Q dd (((80 * 6 + o : Nat)) : Int) p x M) (fun x => (x + 1).toNat) (fun x => -1 ≤ x ∧ x < S.1 7 ∧ ∀ j : Nat, x < j → (j : Int) < w_z S 7 → ¬ t_sok (w_t S 6 o) (w_t S 7 j) S.2.2.2) ?_ _ (S.1 7 - 1) ⟨by omega, by omega, fun j j1 j2 => by change (j : Int) < S.1 7 at j2; omega⟩ (Nat.lt_succ_self _)⟩
  intro d2 x ⟨x1, x2, x3⟩ ih
  unfold WX12_take_40 VX12_take_40
  refine ⟨fun lt => ?_, fun ge => ?_⟩
  · unfold WX12_take_127 VX12_take_127
    exact ⟨fun z => by omega, fun _ => j_q_no h (q9 (Or.inl ⟨rfl, fun k hk => x3 k (by omega) hk⟩))⟩
  obtain ⟨k, ek⟩ : ∃ k : Nat, x = k := ⟨x.toNat, by omega⟩
  subst ek
  have tk : ((k : Nat) : Int).toNat = k := by omega
  have k60 : k < 60 := by omega
  have rs := hR.2.2.2.2.2.2.1 k x2
  have so := hsok k x2
  have rm := hR.2.2.2.2.2.2.2.1 k o x2 hoi
  rw [n_k k60] at rs rm
  obtain ⟨⟨y0, y5, y4, y8, y12, y13⟩, yb, yg⟩ := rs
  change M 4506 k = _ at y0
  change M 4507 k = _ at y5
  change M 4508 k = _ at y4
  change M 4516 k = _ at y8
  change M 4512 k = _ at y12
  change M 4513 k = _ at y13
  change s_ar (fun i => M 4511 (6 * k + i)) (M 4510 k) = _ at yb
  change s_ar (fun i => (M 4514 (6 * k + i), M 4515 (6 * k + i))) (M 4510 k) = _ at yg
  change _ < M 4509 k ↔ _ at rm
  rw [← c1] at rm
  obtain ⟨s1, s2, s3, s4, s5, s6, s7, s8⟩ := so
  obtain ⟨nb0, nb6⟩ := hn.2.2.2.2.1 k k60
  generalize hsal : w_t S 7 k = sal at *
  obtain ⟨L, eL⟩ : ∃ L : Nat, r_get sal.2.1 0 = L := ⟨(r_get sal.2.1 0).toNat, by omega⟩
  have hLi : (L : Int) < S.1 0 := by omega
  have L80 := R_mx hz (show 0 < 7 by omega) hLi
  rw [eL] at y0
  have tL : ((L : Nat) : Int).toNat = L := by omega
  have k121 : ¬ t_sok (w_t S 6 o) sal S.2.2.2 → WX12_take_121 (WX12_take_40 Q d2) Q (((80 * 6 + o : Nat)) : Int) p k M := fun ne => by
    unfold WX12_take_121 VX12_take_121
    rw [s_w (x := (k : Int) + (-1)) (by omega) (by omega)]
    refine ih ((k : Int) + (-1)) ⟨by omega, by omega, fun j j1 j2 => ?_⟩ (by show ((k : Int) + (-1) + 1).toNat < ((k : Int) + 1).toNat; omega)
    by_cases c : j = k
    · rw [c, hsal]; exact ne
    · exact x3 j (by omega) j2
  have k127 : t_sok (w_t S 6 o) sal S.2.2.2 → WX12_take_127 Q p k M := fun hs => by
    have lat : w_lat S (w_t S 6 o) S.2.2.2 k := Or.inr ⟨k, rfl, x2, by rw [hsal]; exact hs, fun j j1 j2 => x3 j (by omega) j2⟩
    have hq2 := qk k lat
    unfold X_take2 X_tko X_tfin at hq2
    rw [hsal, eL, tL, ep] at hq2
    have ob := (hg.1 L hLi).2.2.2
    have eo := (R_lo hR hz hLi).2.2
    have j8 := (hn.2.2.1 L L80).2.2
    generalize hps : (V (sal.1 11).toNat).2.2.2.1 = ps at *
    generalize hT : sal.1 12 = T at *
    generalize hB : sal.1 13 = B at *
    generalize hown : (w_l S L).2.2.2 = own at *
    have bl : (sal.2.2.length : Int) = M 4510 k := by rw [← yb, s_ar_len]; omega
    have hnp : (p : Int) ∉ sal.2.2 := by
      have := hs.2.2.1.2
      rw [ep] at this; exact this
    -- each one's share
    have gl := o_gs_len (T := T) (B := B) s6
    have gat : ∀ i : Nat, (i : Int) < M 4510 k → ∃ g : Int × Int × Int, (o_gs sal.2.2 T B ps)[i]? = some g ∧ g.1 = M 4511 (6 * k + i) ∧ s_red g.2.1 g.2.2 = (M 4514 (6 * k + i), M 4515 (6 * k + i)) ∧ (0 ≤ g.2.1 ∧ g.2.1 ≤ 1000000000) ∧ 0 < g.2.2 ∧ g.2.2 ≤ 1000000000 := fun i hi => by
      have b1 : sal.2.2[i]? = some (M 4511 (6 * k + i)) := by rw [← yb]; exact s_ar_get (f := fun i => M 4511 (6 * k + i)) (by omega)
      have pi : i < ps.length := by rw [← s6]; omega
      have p1 := List.getElem?_eq_getElem pi
      have g1 : (ps.map (fun p => s_red (T * p.1) (B * p.2)))[i]? = some (M 4514 (6 * k + i), M 4515 (6 * k + i)) := by rw [← yg]; exact s_ar_get (f := fun i => (M 4514 (6 * k + i), M 4515 (6 * k + i))) (by omega)
      rw [List.getElem?_map, p1] at g1
      have pp := s5 _ (List.mem_of_getElem? p1)
      have m1 : T * ps[i].1 ≤ 1000000 * 1000 := Int.mul_le_mul s2.2 pp.1.2 (by omega) (by decide)
      have m2 : B * ps[i].2 ≤ 1000000 * 1000 := Int.mul_le_mul s3.2 pp.2.2 (by omega) (by decide)
      exact ⟨_, o_gs_at b1 p1, rfl, Option.some.inj g1, ⟨Int.mul_nonneg s2.1 (by omega), m1⟩, Int.mul_pos s3.1 (by omega), m2⟩
    have gall : ∀ g ∈ o_gs sal.2.2 T B ps, 0 < g.2.2 := fun g hg => by
      obtain ⟨i, i1, i2⟩ := List.getElem_of_mem hg
      obtain ⟨g', g1, -, -, -, g2, -⟩ := gat i (by omega)
      rw [List.getElem?_eq_getElem i1, i2] at g1
      rw [Option.some.inj g1]; exact g2
    have gnd : ((o_gs sal.2.2 T B ps).map (fun g => g.1)).Nodup := by rw [o_gs_fst s6]; exact s7
    have gne : ∀ i j : Nat, i < j → ∀ g g', (o_gs sal.2.2 T B ps)[i]? = some g → (o_gs sal.2.2 T B ps)[j]? = some g' → g.1 ≠ g'.1 := fun i j hij g g' h1 h2 => by
      have m1 : ((o_gs sal.2.2 T B ps).map (fun g => g.1))[i]? = some g.1 := by rw [List.getElem?_map, h1]; rfl
      have m2 : ((o_gs sal.2.2 T B ps).map (fun g => g.1))[j]? = some g'.1 := by rw [List.getElem?_map, h2]; rfl
      obtain ⟨a1, a2⟩ := List.getElem?_eq_some_iff.mp m1
      obtain ⟨b1, b2⟩ := List.getElem?_eq_some_iff.mp m2
      rw [← a2, ← b2]
      exact List.pairwise_iff_getElem.mp gnd i j a1 b1 hij
    have q6 : ¬ o_tko (o_gs sal.2.2 T B ps) own → j_q M V a Q (6, S) := fun g => j_qx (c_if_pos g) hq2
    have q6f : o_tko (o_gs sal.2.2 T B ps) own → (∃ q ∈ o_give (o_tkf (o_gs sal.2.2 T B ps) own) p T B, 1000000 < q.2.2) → j_q M V a Q (6, S) := fun g1 g2 => j_qx ((c_if_neg (fun z => z g1)).trans (c_if_pos g2)) hq2
    have q7 : o_tko (o_gs sal.2.2 T B ps) own → (∀ q ∈ o_give (o_tkf (o_gs sal.2.2 T B ps) own) p T B, q.2.2 ≤ 1000000) → 8 < (o_give (o_tkf (o_gs sal.2.2 T B ps) own) p T B).length → j_q M V a Q (7, S) := fun g1 g2 g3 => j_qx ((c_if_neg (fun z => z g1)).trans ((c_if_neg (n_all g2)).trans (c_if_pos g3))) hq2
    have q0 : o_tko (o_gs sal.2.2 T B ps) own → (∀ q ∈ o_give (o_tkf (o_gs sal.2.2 T B ps) own) p T B, q.2.2 ≤ 1000000) → ¬ 8 < (o_give (o_tkf (o_gs sal.2.2 T B ps) own) p T B).length → j_q M V a Q (0, w_put (w_ows S L (o_give (o_tkf (o_gs sal.2.2 T B ps) own) p T B)) (w_F 7 + k) 8 1) := fun g1 g2 g3 => j_qx ((c_if_neg (fun z => z g1)).trans ((c_if_neg (n_all g2)).trans (c_if_neg g3))) hq2
    have jq : ∀ {X : Int × w_S} {N : e_M}, m_fr M N → j_q M V a Q X → j_q N V a Q X := fun f hj M' a1 a2 a3 => hj M' a1 a2 (j_keep_trans (m_fr_keep f) a3)
    have no : ∀ {c : Int} {N : e_M}, m_fr M N → j_q M V a Q (c, S) → Q c N := fun f hj => j_q_no (R_all_fr h f) (jq f hj)
    have cells : ∀ N, m_fr M N → ∀ c, (4463 ≤ c ∧ c ≤ 4516) ∨ c = 4520 → N c = M c := fun N f c hc => f.1 c (by omega) (by omega) (by omega) (by omega)
    have len8 : own.length ≤ 8 := by
      have := j_own_len j8
      rw [eo] at this
      have := j8.2
      omega
    unfold WX12_take_127 VX12_take_127
    rw [tk, y0]
    refine ⟨fun _ => ⟨by omega, m_loads hn L80 (fun M1 o1 k1 f1 => ?_)⟩, fun z => by omega⟩
    rw [eo] at o1
    have ck1 := cells M1 f1
    have len1 := m_own_len k1
    rw [o1] at len1
    -- all give, one after another
    have k241 : o_tko (o_gs sal.2.2 T B ps) own → ∃ j, WX12_take_241 Q j p k L 0 M1 := fun hko => by
      refine s_up (σ := e_M) (P := fun dd i N => WX12_take_241 Q dd p k L i N) (n := M 4510 k) (i0 := 0) (s := M1) (fun i N => m_fr M N ∧ m_ook N ∧ m_own N = o_tkf ((o_gs sal.2.2 T B ps).take i.toNat) own) nb0 ⟨f1, k1, o1⟩ ?_ ?_
      · intro d3 N ⟨f, kN, oN⟩
        have ck := cells N f
        rw [List.take_of_length_le (by omega)] at oN
        have lenN := m_own_len kN
        rw [oN] at lenN
        have le8 := o_tkf_len (gs := o_gs sal.2.2 T B ps) (o := own)
        unfold WX12_take_241 VX12_take_241
        rw [tk, ck 4510 (by omega), ck 4512 (by omega), ck 4513 (by omega), y12, y13]
        refine ⟨by omega, fun _ => ⟨by omega, by omega, m_gets (B := 1000000) (C := 1000000) kN (by omega) (by decide) (fun q hq1 hq2 => ?_) s2 s3 (by decide) s4 (fun M3 o3 k3 f3 => ?_)⟩, fun z => by omega⟩
        · rw [oN] at hq1
          have := ob q (o_tkf_mem hko (fun g hg e => hnp (by
            rw [← hq2, e, ← o_gs_fst (T := T) (B := B) s6]
            exact List.mem_map_of_mem hg)) hq1)
          exact ⟨this.1, by omega, this.2.2.1, this.2.2.2⟩
        · rw [oN] at o3
          have f3' := m_fr_trans f f3
          have len3 := m_own_len k3
          rw [o3] at len3
          refine m_isGreat k3 (fun gr => ⟨fun z => by omega, fun _ => no f3' (q6f hko (by rw [← o3]; exact gr))⟩) (fun ng => ⟨fun _ => ?_, fun z => absurd rfl z⟩)
          rw [o3] at ng
          refine ⟨fun le => ?_, fun gt => no f3' (q7 hko ng (by omega))⟩
          have q0' := q0 hko ng (by omega)
          generalize hfin : o_give (o_tkf (o_gs sal.2.2 T B ps) own) p T B = fin at *
          obtain ⟨u1, u2⟩ := m_fr_n hn f3'
          refine m_keeps u1 L80 k3 le (fun M4 v1 v2 v3 => ⟨⟨by omega, Or.inr rfl⟩, fun M5 e5 => ?_⟩)
          rw [u2, o3] at v2
          have kp4 : j_keep M M4 := j_keep_trans (m_fr_keep f3') (j_keep_of (fun b hb => v3 b (by omega) (by omega) (by omega) (by omega)))
          have g5 : ∀ c, c ≠ 4516 → M5 c = M4 c := fun c hc => by rw [e5, e_up_row hc]
          have m6 := v1.2.2.2.2.1 k k60
          have m73 := v1.2.2.2.2.2
          obtain ⟨x1', x2'⟩ := n_upX (M := M4) (M' := M5) (k := k) v1 k60 (fun c c0 c1 => g5 c (by omega)) (fun c c0 c1 c2 c3 c4 u hu => by
            by_cases c16 : c = 4516
            · rw [c16, e5, e_up_ne (fun z => hu z.2)]
            · rw [g5 c c16]) (fun c hc j _ => by rw [g5 c (by omega)]) (by rw [g5 4510 (by omega)]; exact m6) (by rw [g5 4456 (by omega)]; exact m73)
          refine q0' M5 x1' ?_ (j_keep_trans kp4 (by rw [e5]; exact j_keep_cell (by omega)))
          have sa : n_sa M5 k = (s_fu (n_sa M4 k).1 8 1, (n_sa M4 k).2) := by
            unfold n_sa
            rw [g5 4511 (by omega), g5 4510 (by omega), g5 4514 (by omega), g5 4515 (by omega)]
            refine Prod.ext (funext fun j => ?_) rfl
            show n_ss M5 k j = s_fu (n_ss M4 k) 8 1 j
            unfold n_ss s_fu
            rw [g5 4506 (by omega), g5 4509 (by omega), g5 4508 (by omega), g5 4507 (by omega), g5 4512 (by omega), g5 4513 (by omega)]
            by_cases j8' : j = 8
            · subst j8'
              have : M5 4516 k = 1 := by rw [e5, e_up_eq]
              simp [this]
            · simp only [if_neg j8']
          have hR4 : R_S V (w_ows S L fin) (n_of M4) a := by
            rw [v2]
            exact R_ows hR hz hLi
          have sal4 : w_t (w_ows S L fin) 7 k = sal := hsal
          have rs4 := hR4.2.2.2.2.2.2.1 k x2
          rw [sal4, n_k k60] at rs4
          have wp : w_put (w_ows S L fin) (w_F 7 + k) 8 1 = w_setT (w_ows S L fin) (w_F 7 + k) (s_fu sal.1 8 1, sal.2) := by
            rw [← sal4]; rfl
          show R_S V (w_put (w_ows S L fin) (w_F 7 + k) 8 1) (n_of M5) a
          rw [wp]
          refine R_sput (y := n_sa M5 k) hR4 hz x2 ?_ ?_ ?_
          · rw [sa]
            obtain ⟨⟨z0, z5, z4, z8, z12, z13⟩, zb, zg⟩ := rs4
            exact ⟨⟨z0, z5, z4, rfl, z12, z13⟩, zb, zg⟩
          · rw [sa, n_k k60]
            refine ⟨rfl, ?_⟩
            rw [sal4]; rfl
          · rw [x2', g5 4456 (by omega)]; rfl
      · intro d3 i N i1 i2 ⟨f, kN, oN⟩ ih2
        obtain ⟨s, es⟩ : ∃ s : Nat, i = s := ⟨i.toNat, by omega⟩
        subst es
        rw [show ((s : Nat) : Int).toNat = s by omega] at oN
        have ck := cells N f
        obtain ⟨g, g1, g2, g3, g4, g5⟩ := gat s i2
        have lt : s < (o_gs sal.2.2 T B ps).length := by omega
        have tk1 : (o_gs sal.2.2 T B ps).take (s + 1) = (o_gs sal.2.2 T B ps).take s ++ [g] := by rw [List.take_succ, g1]; rfl
        have ko := o_tko_take (n := 0) s hko
        have ne : ∀ g' ∈ (o_gs sal.2.2 T B ps).take s, g.1 ≠ g'.1 := fun g' hg' e => by
          obtain ⟨j, j1, j2⟩ := List.getElem_of_mem hg'
          rw [List.length_take] at j1
          have jj : (o_gs sal.2.2 T B ps)[j]? = some g' := by
            rw [← j2, List.getElem_take]
            exact List.getElem?_eq_getElem (by omega)
          exact gne j s (by omega) g' g jj g1 e.symm
        have hhas : o_has own g.1 g.2.1 g.2.2 := (o_tko_all gnd).mp hko g (List.mem_of_getElem? g1)
        have le := s_red_le g4.1 g5.1
        rw [g3] at le
        dsimp only at le
        have hh2 := (o_has_red g5.1).mp ((o_tkf_has (g := g) ko ne).mpr hhas)
        rw [g3, ← oN] at hh2
        dsimp only at hh2
        unfold WX12_take_241 VX12_take_241
        rw [tk, ck 4510 (by omega), s_w (x := 6 * (k : Int)) (by omega) (by omega), s_w (x := 6 * (k : Int) + s) (by omega) (by omega), show (6 * (k : Int) + (s : Int)).toNat = 6 * k + s by omega, ck 4511 (by omega), ck 4514 (by omega), ck 4515 (by omega), ← g2]
        refine ⟨by omega, fun z => by omega, fun _ => ⟨by omega, by omega, by omega, m_gives (B := 1000000) (C := 1000000000) kN (fun q hq1 hq2 => ?_) (by omega) (by omega) (by decide) hh2 (fun M3 o3 k3 f3 => ?_)⟩⟩
        · rw [oN] at hq1
          have := ob q (o_tkf_mem ko (fun g' hg' => by rw [hq2]; exact ne g' hg') hq1)
          exact ⟨this.1, by omega, this.2.2.1, this.2.2.2⟩
        · rw [s_w (x := (s : Int) + 1) (by omega) (by omega)]
          refine ih2 M3 ⟨m_fr_trans f f3, k3, ?_⟩
          rw [show ((s : Int) + 1).toNat = s + 1 by omega, tk1, o_tkf_snoc, o3, oN]
          have er := o_sub_red (l := o_tkf ((o_gs sal.2.2 T B ps).take s) own) (i := (o_fd (o_tkf ((o_gs sal.2.2 T B ps).take s) own) g.1).toNat) (t := g.2.1) g5.1 (o_tkf_pos (fun g' hg' => gall g' (List.mem_of_mem_take hg')) (fun q hq => (ob q hq).2.2.1))
          rw [g3] at er
          exact er.symm
    -- whether all have what they are to give
    refine s_up (σ := Unit) (P := fun dd i _ => WX12_take_151 Q dd p k L i M1) (n := M 4510 k) (i0 := 0) (s := ()) (fun i _ => ∀ j : Nat, (j : Int) < i → ∀ g, (o_gs sal.2.2 T B ps)[j]? = some g → o_has own g.1 g.2.1 g.2.2) nb0 (fun j hj => by omega) ?_ ?_
    · intro d3 _ hI
      unfold WX12_take_151 VX12_take_151
      rw [tk, ck1 4510 (by omega)]
      refine ⟨by omega, fun _ => k241 ((o_tko_all gnd).mpr (fun g hg => ?_)), fun z => by omega⟩
      obtain ⟨i, i1, i2⟩ := List.getElem_of_mem hg
      exact hI i (by omega) g (by rw [List.getElem?_eq_getElem i1, i2])
    · intro d3 i _ i1 i2 hI ih2
      obtain ⟨s, es⟩ : ∃ s : Nat, i = s := ⟨i.toNat, by omega⟩
      subst es
      obtain ⟨g, g1, g2, g3, g4, g5⟩ := gat s i2
      have bad : ¬ o_has own g.1 g.2.1 g.2.2 → Q 6 M1 := fun hb => no f1 (q6 (fun z => hb ((o_tko_all gnd).mp z g (List.mem_of_getElem? g1))))
      have le := s_red_le g4.1 g5.1
      rw [g3] at le
      dsimp only at le
      have hred := o_has_red (l := own) (p := g.1) (t := g.2.1) g5.1
      rw [g3] at hred
      dsimp only at hred
      unfold WX12_take_151 VX12_take_151
      rw [tk, ck1 4510 (by omega), s_w (x := 6 * (k : Int)) (by omega) (by omega), s_w (x := 6 * (k : Int) + s) (by omega) (by omega), show (6 * (k : Int) + (s : Int)).toNat = 6 * k + s by omega, ck1 4511 (by omega), ck1 4514 (by omega), ck1 4515 (by omega), ← g2]
      refine ⟨by omega, fun z => by omega, fun _ => ⟨by omega, m_ownAt k1 ?_⟩⟩
      rw [o1]
      have flt := o_fd_lt (l := own) (p := g.1)
      refine ⟨fun lt => bad (fun ⟨_, _, z, _⟩ => by omega), fun ge' => ?_⟩
      have hg1 := m_own_at (M := M1) (i := (o_fd own g.1).toNat) (by omega)
      rw [o1] at hg1
      have qb := ob _ (List.mem_of_getElem? hg1)
      dsimp only at qb
      generalize M 4514 (6 * k + s) = u at *
      generalize M 4515 (6 * k + s) = v at *
      generalize hrr : o_fd own g.1 = rr at *
      generalize hx8 : M1 4518 rr.toNat = x8 at *
      generalize hx9 : M1 4519 rr.toNat = x9 at *
      have n1 : 0 ≤ u * x9 := Int.mul_nonneg le.1.1 (by omega)
      have n2 : u * x9 ≤ 1000000000 * 1000000 := Int.mul_le_mul (by omega) qb.2.2.2 (by omega) (by decide)
      have n3 : 0 ≤ x8 * v := Int.mul_nonneg qb.1 (by omega)
      have n4 : x8 * v ≤ 1000000 * 1000000000 := Int.mul_le_mul (by omega) (by omega) (by omega) (by decide)
      rw [s_wj (x := u * x9) (by omega) (by omega), s_wj (x := x8 * v) (by omega) (by omega)]
      refine ⟨by omega, by omega, by omega, by omega, fun le' => ?_, fun lt => bad (fun z => ?_)⟩
      · rw [s_w (x := (s : Int) + 1) (by omega) (by omega)]
        refine ih2 () (fun j hj g' hg' => ?_)
        by_cases cj : j = s
        · rw [cj, g1] at hg'
          rw [← Option.some.inj hg']
          exact hred.mpr ⟨_, by rw [hrr]; exact hg1, by rw [hrr]; exact ge', le'⟩
        · exact hI j (by omega) g' hg'
      · obtain ⟨y, y1, y2, y3⟩ := hred.mp z
        rw [hrr, hg1] at y1
        obtain rfl := Option.some.inj y1
        dsimp only at y3
        omega
  unfold t_sok at k121 k127
  rw [eL, ep] at k121 k127
  rw [tk, y0]
  refine ⟨by omega, m_placeOn (by omega) (by rw [tt]; exact jk) ?_⟩
  rw [tt, erw]
  refine ⟨fun lt => k121 (fun z => by have := r_find_mem.mpr z.2.2.2.2; omega), fun ge' => ⟨by omega, by omega, ?_⟩⟩
  have hin := r_find_mem.mp ge'
  have hlv := hlive L hin
  rw [tL] at hlv
  obtain ⟨-, -, d2', -⟩ := n_c (M := M) (t := L) (by omega)
  have e2 : ((n_of M).2.1 L).1 2 = (w_l S L).1 1 := (hR.2.2.1 L hLi).1.2.1
  rw [tL, d2', e2, hlv, y4, y8]
  refine ⟨fun z => absurd rfl z, fun _ => ⟨by omega, by omega, fun le => k121 (fun z => by have := rm.mpr z.1; omega), fun lt => ⟨by omega, ?_⟩⟩⟩
  have lt' := rm.mp lt
  rw [R_day hR, s_w (x := S.2.2.2 - sal.1 4) (by omega) (by omega)]
  refine ⟨fun gt => k121 (fun z => by have := z.2.1; omega), fun le => ⟨by omega, fun n0 => k121 (fun z => n0 z.2.2.2.1), fun e8 => m_isOthers hn k60 (fun ot => ⟨fun _ => k127 ⟨lt', le, ⟨?_, ?_⟩, e8, hin⟩, fun z => by omega⟩) (fun not => ⟨fun z => absurd rfl z, fun _ => k121 (fun z => not ⟨?_, fun j hj e => ?_⟩)⟩)⟩⟩
  · have := ot.1
    rw [y5] at this; exact this
  · rw [← yb]
    intro m
    obtain ⟨j, j1, j2⟩ := s_ar_mem.mp m
    exact ot.2 j (by omega) j2
  · rw [y5]; exact z.2.2.1.1
  · refine z.2.2.1.2 ?_
    rw [← yb]
    exact s_ar_mem.mpr ⟨j, by omega, e⟩
