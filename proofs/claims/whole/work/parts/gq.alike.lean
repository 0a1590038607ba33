/-! THE MODEL: before a JOIN; a row with two made one -/
theorem nd_inj {α β : Type} {f : α → β} : ∀ {m : List α}, (m.map f).Nodup → ∀ x ∈ m, ∀ y ∈ m, f x = f y → x = y
  | [], _, x, hx, _, _, _ => by cases hx
  | a :: m, nd, x, hx, y, hy, e => by
    rw [List.map_cons, List.nodup_cons] at nd
    rcases List.mem_cons.mp hx with h | h
    · rcases List.mem_cons.mp hy with k | k
      · rw [h, k]
      · exact absurd (List.mem_map.mpr ⟨y, k, by rw [← e, h]⟩) nd.1
    · rcases List.mem_cons.mp hy with k | k
      · exact absurd (List.mem_map.mpr ⟨x, h, by rw [e, k]⟩) nd.1
      · exact nd_inj nd.2 x h y k e
theorem o_same_iff {l m : s_Own} (nd : (m.map (fun q => q.1)).Nodup) : o_same l m ↔ (∀ q ∈ l, q ∈ m) ∧ l.length = m.length := by
  unfold o_same
  have key : ∀ q : Int × Int × Int, (∃ r, 0 ≤ o_fd m q.1 ∧ m[(o_fd m q.1).toNat]? = some r ∧ r.2 = q.2) ↔ q ∈ m := fun q => by
    have fst : ∀ r : Int × Int × Int, 0 ≤ o_fd m q.1 → m[(o_fd m q.1).toNat]? = some r → r.1 = q.1 := fun r h0 hr => by
      rcases r_find_cases (m.map (fun q => q.1)) q.1 with ⟨-, z⟩ | ⟨i, i1, i2, -, i4⟩
      · unfold o_fd at h0; omega
      · have e : (o_fd m q.1).toNat = i := by unfold o_fd; omega
        rw [e] at hr
        rw [List.getElem?_map, hr] at i2
        exact Option.some.inj i2
    constructor
    · rintro ⟨r, h0, hr, h2⟩
      have e : r = q := Prod.ext (fst r h0 hr) h2
      rw [← e]
      exact List.mem_of_getElem? hr
    · intro hq
      have h0 : 0 ≤ o_fd m q.1 := r_find_mem.mpr (List.mem_map.mpr ⟨q, hq, rfl⟩)
      have lt := r_find_lt (l := m.map (fun q => q.1)) (x := q.1)
      rw [List.length_map] at lt
      have h1 : (o_fd m q.1).toNat < m.length := by unfold o_fd at h0 ⊢; omega
      have hr := List.getElem?_eq_getElem h1
      refine ⟨_, h0, hr, ?_⟩
      have := nd_inj nd _ (List.mem_of_getElem? hr) q hq (fst _ h0 hr)
      rw [this]
  exact ⟨fun h => ⟨fun q hq => (key q).mp (h.1 q hq), h.2⟩, fun h => ⟨fun q hq => (key q).mpr (h.1 q hq), h.2⟩⟩
theorem m_areAlike {M : e_M} {a b : Nat} {Q : Int → Prop} (h : nn_ok M) (ha : a < 80) (hb : b < 80) (nd : ((j_own M b).map (fun q => q.1)).Nodup) (q1 : o_same (j_own M a) (j_own M b) → Q 1) (q0 : ¬ o_same (j_own M a) (j_own M b) → Q 0) : WX12_areAlike a b M Q := by
  rw [o_same_iff nd] at q1 q0
  have oa := (h.2.2.1 a ha).2.2
  have ob := (h.2.2.1 b hb).2.2
  have la := j_own_len oa
  have lb := j_own_len ob
  unfold j_ok at oa ob
  unfold WX12_areAlike VX12_areAlike
  rw [show ((a : Nat) : Int).toNat = a by omega, show ((b : Nat) : Int).toNat = b by omega]
  refine ⟨by omega, by omega, fun eq => ?_, fun ne => q0 (fun c => by have := c.2; omega)⟩
  have memb : ∀ q, q ∈ j_own M b ↔ ∃ j : Nat, (j : Int) < M 4497 b ∧ (M 4498 (8 * b + j), M 4501 (8 * b + j), M 4502 (8 * b + j)) = q := fun q => by
    unfold j_own
    rw [s_ar_mem]
    exact ⟨fun ⟨j, h1, h2⟩ => ⟨j, by omega, h2⟩, fun ⟨j, h1, h2⟩ => ⟨j, by omega, h2⟩⟩
  have mema : ∀ q, q ∈ j_own M a ↔ ∃ j : Nat, (j : Int) < M 4497 a ∧ (M 4498 (8 * a + j), M 4501 (8 * a + j), M 4502 (8 * a + j)) = q := fun q => by
    unfold j_own
    rw [s_ar_mem]
    exact ⟨fun ⟨j, h1, h2⟩ => ⟨j, by omega, h2⟩, fun ⟨j, h1, h2⟩ => ⟨j, by omega, h2⟩⟩
  refine s_up (σ := Unit) (P := fun dd i _ => WX12_areAlike_19 M Q dd a b i) (n := M 4497 a) (i0 := 0) (s := ()) (fun i _ => ∀ j : Nat, (j : Int) < i → (M 4498 (8 * a + j), M 4501 (8 * a + j), M 4502 (8 * a + j)) ∈ j_own M b) oa.1 (fun j hj => by omega) ?_ ?_
  · intro d _ hI
    unfold WX12_areAlike_19 VX12_areAlike_19
    rw [show ((a : Nat) : Int).toNat = a by omega]
    refine ⟨by omega, fun _ => q1 ⟨fun q hq => ?_, by omega⟩, fun z => by omega⟩
    obtain ⟨j, j1, j2⟩ := (mema q).mp hq
    rw [← j2]; exact hI j j1
  · intro d i' _ i0 i1 hI ih
    obtain ⟨i, ei⟩ : ∃ i : Nat, i' = i := ⟨i'.toNat, by omega⟩
    subst ei
    unfold WX12_areAlike_19 VX12_areAlike_19
    rw [show ((a : Nat) : Int).toNat = a by omega]
    refine ⟨by omega, fun z => by omega, fun _ => ?_⟩
    refine s_up (σ := Int) (P := fun dd x fl => WX12_areAlike_35 M (WX12_areAlike_19 M Q d) Q dd a b i fl x) (n := M 4497 b) (i0 := 0) (s := 0) (fun x fl => (fl = 0 ∧ ∀ j : Nat, (j : Int) < x → (M 4498 (8 * b + j), M 4501 (8 * b + j), M 4502 (8 * b + j)) ≠ (M 4498 (8 * a + i), M 4501 (8 * a + i), M 4502 (8 * a + i))) ∨ (fl = 1 ∧ (M 4498 (8 * a + i), M 4501 (8 * a + i), M 4502 (8 * a + i)) ∈ j_own M b)) ob.1 (Or.inl ⟨rfl, fun j hj => by omega⟩) ?_ ?_
    · intro d2 fl hf
      unfold WX12_areAlike_35 VX12_areAlike_35
      rw [show ((b : Nat) : Int).toNat = b by omega, s_w (x := (i : Int) + 1) (by omega) (by omega)]
      refine ⟨by omega, fun _ => ⟨fun ne => ih () (fun j hj => ?_), fun e0 => q0 (fun c => ?_)⟩, fun z => by omega⟩
      · rcases hf with ⟨z, -⟩ | ⟨-, m⟩
        · exact absurd z ne
        · by_cases c : j = i
          · rw [c]; exact m
          · exact hI j (by omega)
      · rcases hf with ⟨-, no⟩ | ⟨z, -⟩
        · obtain ⟨j, j1, j2⟩ := (memb _).mp (c.1 _ ((mema _).mpr ⟨i, i1, rfl⟩))
          exact no j j1 j2
        · omega
    · intro d2 x' fl x0 x1 hf ih2
      obtain ⟨x, ex⟩ : ∃ x : Nat, x' = x := ⟨x'.toNat, by omega⟩
      subst ex
      have k136 : ∀ fl', ((fl' = 0 ∧ ∀ j : Nat, (j : Int) < (x : Int) + 1 → (M 4498 (8 * b + j), M 4501 (8 * b + j), M 4502 (8 * b + j)) ≠ (M 4498 (8 * a + i), M 4501 (8 * a + i), M 4502 (8 * a + i))) ∨ (fl' = 1 ∧ (M 4498 (8 * a + i), M 4501 (8 * a + i), M 4502 (8 * a + i)) ∈ j_own M b)) → WX12_areAlike_136 M (WX12_areAlike_19 M Q d) (WX12_areAlike_35 M (WX12_areAlike_19 M Q d) Q d2) Q a b i x fl' := fun fl' w => by
        unfold WX12_areAlike_136 VX12_areAlike_136
        rw [s_w (x := (x : Int) + 1) (by omega) (by omega)]
        exact ih2 fl' w
      have k131 : (M 4498 (8 * a + i), M 4501 (8 * a + i), M 4502 (8 * a + i)) ∈ j_own M b → WX12_areAlike_131 M (WX12_areAlike_19 M Q d) (WX12_areAlike_35 M (WX12_areAlike_19 M Q d) Q d2) Q a b i x := fun w => by
        unfold WX12_areAlike_131 VX12_areAlike_131
        exact k136 1 (Or.inr ⟨rfl, w⟩)
      have k135 : fl = 0 → (M 4498 (8 * b + x), M 4501 (8 * b + x), M 4502 (8 * b + x)) ≠ (M 4498 (8 * a + i), M 4501 (8 * a + i), M 4502 (8 * a + i)) → WX12_areAlike_135 M (WX12_areAlike_19 M Q d) (WX12_areAlike_35 M (WX12_areAlike_19 M Q d) Q d2) Q a b i x := fun z w => by
        unfold WX12_areAlike_135 VX12_areAlike_135
        refine k136 0 (Or.inl ⟨rfl, fun j hj => ?_⟩)
        by_cases c : j = x
        · rw [c]; exact w
        · rcases hf with ⟨-, no⟩ | ⟨z', -⟩
          · exact no j (by omega)
          · omega
      unfold WX12_areAlike_35 VX12_areAlike_35
      rw [show ((b : Nat) : Int).toNat = b by omega, s_w (x := 8 * (a : Int)) (by omega) (by omega), s_w (x := 8 * (a : Int) + (i : Int)) (by omega) (by omega), s_w (x := 8 * (b : Int)) (by omega) (by omega), s_w (x := 8 * (b : Int) + (x : Int)) (by omega) (by omega), show (8 * (a : Int) + (i : Int)).toNat = 8 * a + i by omega, show (8 * (b : Int) + (x : Int)).toNat = 8 * b + x by omega]
      refine ⟨by omega, fun z => by omega, fun _ => ⟨fun ne => k131 ?_, fun e0 => ⟨by omega, by omega, fun n1 => k135 e0 (fun e => n1 (congrArg Prod.fst e).symm), fun e1 => ⟨by omega, by omega, fun n2 => k135 e0 (fun e => n2 (congrArg (fun q : Int × Int × Int => q.2.1) e).symm), fun e2 => ⟨by omega, by omega, fun n3 => k135 e0 (fun e => n3 (congrArg (fun q : Int × Int × Int => q.2.2) e).symm), fun e3 => k131 ((memb _).mpr ⟨x, x1, ?_⟩)⟩⟩⟩⟩⟩
      · rcases hf with ⟨z, -⟩ | ⟨-, m⟩
        · exact absurd z ne
        · exact m
      · rw [e1, e2, e3]
theorem m_bearAlike {M : e_M} {V : Nat → v_D} {S : w_S} {m : Int} {a b : Nat} {Q : Int → Prop} (h : R_all M V S m) (ha : (a : Int) < S.1 0) (hb : (b : Int) < S.1 0) (q1 : ((w_l S a).2.2.1 = (w_l S b).2.2.1 ∧ w_both S 4 a b ∧ w_both S 6 a b) → Q 1) (q0 : ¬ ((w_l S a).2.2.1 = (w_l S b).2.2.1 ∧ w_both S 4 a b ∧ w_both S 6 a b) → Q 0) : WX12_bearAlike a b M Q := by
  obtain ⟨hn, hc, hR, hz, hg, hd⟩ := id h
  have a80 := R_mx hz (show 0 < 7 by omega) ha
  have b80 := R_mx hz (show 0 < 7 by omega) hb
  have day : M 4456 86 = S.2.2.2 := R_day hR
  have ra := (R_lo hR hz ha).2.1
  have rb := (R_lo hR hz hb).2.1
  have oa := (hn.2.2.1 a a80).2.1
  have ob := (hn.2.2.1 b b80).2.1
  unfold j_ok at oa ob
  rw [← ra, ← rb] at q1 q0
  have la : (j_row M 4499 4500 a).length = (M 4499 a).toNat := by unfold j_row; rw [s_ar_len]
  have lb : (j_row M 4499 4500 b).length = (M 4499 b).toNat := by unfold j_row; rw [s_ar_len]
  unfold WX12_bearAlike VX12_bearAlike
  rw [show ((a : Nat) : Int).toNat = a by omega, show ((b : Nat) : Int).toNat = b by omega]
  refine ⟨by omega, by omega, fun eq => ?_, fun ne => q0 (fun c => by have := congrArg List.length c.1; rw [la, lb] at this; omega)⟩
  -- the sorts 4 and 6
  have k64 : j_row M 4499 4500 a = j_row M 4499 4500 b → ∃ j, WX12_bearAlike_64 M Q j a b 4 := by
    intro er
    refine s_up (σ := Unit) (P := fun dd s _ => WX12_bearAlike_64 M Q dd a b s) (n := 7) (i0 := 4) (s := ()) (fun s _ => (4 < s → w_both S 4 a b) ∧ (6 < s → w_both S 6 a b)) (by omega) ⟨fun z => by omega, fun z => by omega⟩ ?_ ?_
    · intro d _ hI
      unfold WX12_bearAlike_64 VX12_bearAlike_64
      exact ⟨fun _ => q1 ⟨er, hI.1 (by omega), hI.2 (by omega)⟩, fun z => absurd z (by decide)⟩
    · intro d s' _ s0 s1 hI ih
      obtain ⟨s, es⟩ : ∃ s : Nat, s' = s := ⟨s'.toNat, by omega⟩
      subst es
      have k155 : (s = 4 → w_both S 4 a b) → (s = 6 → w_both S 6 a b) → WX12_bearAlike_155 M (WX12_bearAlike_64 M Q d) Q a b s := fun w4 w6 => by
        unfold WX12_bearAlike_155 VX12_bearAlike_155
        rw [s_w (x := (s : Int) + 1) (by omega) (by omega)]
        refine ih () ⟨fun z => ?_, fun z => w6 (by omega)⟩
        by_cases c : s = 4
        · exact w4 c
        · exact hI.1 (by omega)
      unfold WX12_bearAlike_64 VX12_bearAlike_64
      refine ⟨fun z => by omega, fun _ => ⟨fun n5 => ?_, fun e5 => k155 (fun z => by omega) (fun z => by omega)⟩⟩
      have s46 : s = 4 ∨ s = 6 := by omega
      have zs := z80_of hz s (by omega)
      have es : M 4483 s = S.1 s := R_many hR (by omega)
      refine s_up (σ := Unit) (P := fun dd i _ => WX12_bearAlike_81 M (WX12_bearAlike_64 M Q d) Q dd a b s i) (n := S.1 s) (i0 := 0) (s := ()) (fun i _ => ∀ k : Nat, (k : Int) < i → w_thr S s k = true → ((a : Int) ∈ (w_t S s k).2.1 ↔ (b : Int) ∈ (w_t S s k).2.1)) zs.1 (fun k hk => by omega) ?_ ?_
      · intro d2 _ hJ
        unfold WX12_bearAlike_81 VX12_bearAlike_81
        rw [show ((s : Nat) : Int).toNat = s by omega, es]
        exact ⟨by omega, fun _ => k155 (fun e => by subst e; exact hJ) (fun e => by subst e; exact hJ), fun z => by omega⟩
      · intro d2 i' _ i0 i1 hJ ih2
        obtain ⟨i, ei⟩ : ∃ i : Nat, i' = i := ⟨i'.toNat, by omega⟩
        subst ei
        have i80 : i < 80 := by omega
        have rt := hR.2.2.2.2.1 s i (by omega) (by omega) i1
        have base : n_of M = n_setT (n_of M) (80 * s + i) ((n_of M).2.1 (80 * s + i)) := n_setT_self.symm
        have k149 : (w_thr S s i = true → ((a : Int) ∈ (w_t S s i).2.1 ↔ (b : Int) ∈ (w_t S s i).2.1)) → WX12_bearAlike_149 M (WX12_bearAlike_64 M Q d) (WX12_bearAlike_81 M (WX12_bearAlike_64 M Q d) Q d2) Q a b s i := fun w => by
          unfold WX12_bearAlike_149 VX12_bearAlike_149
          rw [s_w (x := (i : Int) + 1) (by omega) (by omega)]
          refine ih2 () (fun k hk => ?_)
          by_cases c : k = i
          · rw [c]; exact w
          · exact hJ k (by omega)
        have et : 80 * (s : Int) + (i : Int) = ((80 * s + i : Nat) : Int) := by omega
        unfold WX12_bearAlike_81 VX12_bearAlike_81
        rw [show ((s : Nat) : Int).toNat = s by omega, es, day]
        refine ⟨by omega, fun z => by omega, fun _ => m_isThere (by omega) i80 (fun t => ⟨fun z => absurd z (by decide), fun _ => ?_⟩) (fun t => ⟨fun _ => k149 (fun tx => ?_), fun z => absurd rfl z⟩)⟩
        · have tx : w_thr S s i = true := by rw [w_thr_t (by omega), ← rt.2.1]; exact t
          have rr := ((R_rows hR (show 2 ≤ s ∧ s ≤ 6 by omega) i1 tx).2.2.2.1 (by omega)).1
          have k125 : ∀ f : Int, (f = 1 ∧ (a : Int) ∈ (w_t S s i).2.1 ∨ f = 0 ∧ (a : Int) ∉ (w_t S s i).2.1) → WX12_bearAlike_125 M (WX12_bearAlike_64 M Q d) (WX12_bearAlike_81 M (WX12_bearAlike_64 M Q d) Q d2) Q a b s i f := fun f hf => by
            have no : ¬ ((a : Int) ∈ (w_t S s i).2.1 ↔ (b : Int) ∈ (w_t S s i).2.1) → Q 0 := fun w => q0 (fun c => w (by
              rcases s46 with e | e
              · subst e; exact c.2.1 i i1 tx
              · subst e; exact c.2.2 i i1 tx))
            unfold WX12_bearAlike_125 VX12_bearAlike_125
            refine m_id (by omega) (by omega) (k_placeOn et hn (by omega) base ?_)
            rw [rr]
            unfold WX12_bearAlike_144 VX12_bearAlike_144
            refine ⟨fun lt => ?_, fun ge => ?_⟩
            · have nb : (b : Int) ∉ (w_t S s i).2.1 := fun y => by have := r_find_mem.mpr y; omega
              refine ⟨fun e => k149 (fun _ => ?_), fun ne => no (fun c => ?_)⟩
              · rcases hf with ⟨f1, fa⟩ | ⟨f0, fa⟩
                · omega
                · exact ⟨fun y => absurd y fa, fun y => absurd y nb⟩
              · rcases hf with ⟨f1, fa⟩ | ⟨f0, fa⟩
                · exact nb (c.mp fa)
                · exact ne f0
            · have yb : (b : Int) ∈ (w_t S s i).2.1 := r_find_mem.mp ge
              refine ⟨fun e => k149 (fun _ => ?_), fun ne => no (fun c => ?_)⟩
              · rcases hf with ⟨f1, fa⟩ | ⟨f0, fa⟩
                · exact ⟨fun _ => yb, fun _ => fa⟩
                · omega
              · rcases hf with ⟨f1, fa⟩ | ⟨f0, fa⟩
                · exact ne f1
                · exact fa (c.mpr yb)
          refine m_id (by omega) (by omega) (k_placeOn et hn (by omega) base ?_)
          rw [rr]
          exact ⟨fun lt => k125 0 (Or.inr ⟨rfl, fun y => by have := r_find_mem.mpr y; omega⟩), fun ge => k125 1 (Or.inl ⟨rfl, r_find_mem.mp ge⟩)⟩
        · rw [w_thr_t (by omega), ← rt.2.1, t] at tx
          cases tx
  refine s_up (σ := Unit) (P := fun dd i _ => WX12_bearAlike_19 M Q dd a b i) (n := M 4499 a) (i0 := 0) (s := ()) (fun i _ => ∀ j : Nat, (j : Int) < i → M 4500 (8 * a + j) = M 4500 (8 * b + j)) oa.1 (fun j hj => by omega) ?_ ?_
  · intro d _ hI
    unfold WX12_bearAlike_19 VX12_bearAlike_19
    rw [show ((a : Nat) : Int).toNat = a by omega]
    refine ⟨by omega, fun _ => k64 ?_, fun z => by omega⟩
    unfold j_row
    rw [← eq]
    exact s_ar_congr (fun j hj => hI j (by omega))
  · intro d i' _ i0 i1 hI ih
    obtain ⟨i, ei⟩ : ∃ i : Nat, i' = i := ⟨i'.toNat, by omega⟩
    subst ei
    unfold WX12_bearAlike_19 VX12_bearAlike_19
    rw [show ((a : Nat) : Int).toNat = a by omega, s_w (x := 8 * (a : Int)) (by omega) (by omega), s_w (x := 8 * (a : Int) + (i : Int)) (by omega) (by omega), s_w (x := 8 * (b : Int)) (by omega) (by omega), s_w (x := 8 * (b : Int) + (i : Int)) (by omega) (by omega), show (8 * (a : Int) + (i : Int)).toNat = 8 * a + i by omega, show (8 * (b : Int) + (i : Int)).toNat = 8 * b + i by omega, s_w (x := (i : Int) + 1) (by omega) (by omega)]
    refine ⟨by omega, fun z => by omega, fun _ => ⟨by omega, by omega, fun e => ih () (fun j hj => ?_), fun ne => q0 (fun c => ne ?_)⟩⟩
    · by_cases c : j = i
      · rw [c]; exact e
      · exact hI j (by omega)
    · have c1 := c.1
      unfold j_row at c1
      have g1 := s_ar_get (f := fun k => M 4500 (8 * a + k)) (n := M 4499 a) (i := i) (by omega)
      have g2 := s_ar_get (f := fun k => M 4500 (8 * b + k)) (n := M 4499 b) (i := i) (by omega)
      rw [c1, g2] at g1
      exact (Option.some.inj g1).symm
/-! a row with two made one -/
theorem r_find_cons {a x : Int} {l : List Int} : r_find (a :: l) x = if a = x then 0 else if r_find l x < 0 then -1 else r_find l x + 1 := by
  unfold r_find
  rw [List.findIdx?_cons]
  by_cases c : a = x
  · rw [if_pos c, if_pos (by rw [c]; exact beq_self_eq_true x)]; rfl
  · rw [if_neg c, if_neg (by simp [c])]
    cases e : l.findIdx? (fun y => y == x) with
    | none => rfl
    | some i =>
      show ((i + 1 : Nat) : Int) = if ((i : Nat) : Int) < 0 then -1 else ((i : Nat) : Int) + 1
      rw [if_neg (by omega)]; omega
theorem r_del_cons {a x : Int} {l : List Int} : r_del (a :: l) x = if a = x then l else a :: r_del l x := by
  have f := r_find_cons (a := a) (x := x) (l := l)
  have g := r_find_ge (l := l) (x := x)
  unfold r_del
  by_cases c : a = x
  · rw [if_pos c] at f ⊢
    rw [f]; rfl
  · rw [if_neg c] at f ⊢
    by_cases d : r_find l x < 0
    · rw [if_pos d] at f
      rw [f, if_pos d, if_pos (by omega)]
    · rw [if_neg d] at f
      rw [f, if_neg d, if_neg (by omega), show (r_find l x + 1).toNat = (r_find l x).toNat + 1 by omega]; rfl
theorem r_del_no {x : Int} {l : List Int} (h : x ∉ l) : r_del l x = l := by
  unfold r_del
  rw [r_find_no h]; rfl
theorem r_mrg_cons {a one other into : Int} {l : List Int} (n1 : into ≠ one) (n2 : into ≠ other) : r_mrg (a :: l) one other into = if a = one ∨ a = other then into :: r_del (r_del l one) other else a :: r_mrg l one other into := by
  unfold r_mrg
  rw [List.findIdx?_cons]
  by_cases c : a = one ∨ a = other
  · rw [if_pos c, if_pos (by rcases c with c | c <;> simp [c])]
    show r_del (r_del (into :: l) one) other = _
    rw [r_del_cons, if_neg n1, r_del_cons, if_neg n2]
  · rw [if_neg c, if_neg (by rw [not_or] at c; simp [c.1, c.2])]
    cases e : l.findIdx? (fun y => y == one || y == other) with
    | none => rfl
    | some i =>
      show r_del (r_del (a :: l.set i into) one) other = a :: r_del (r_del (l.set i into) one) other
      rw [r_del_cons, if_neg (fun z => c (Or.inl z)), r_del_cons, if_neg (fun z => c (Or.inr z))]
def r_at (l : List Int) (one other : Int) : Int := if 0 ≤ r_find l one then (if 0 ≤ r_find l other then e_min (r_find l one) (r_find l other) else r_find l one) else r_find l other
theorem r_at_0 {a one other : Int} {l : List Int} (h : a = one ∨ a = other) : r_at (a :: l) one other = 0 := by
  have f1 := r_find_cons (a := a) (x := one) (l := l)
  have f2 := r_find_cons (a := a) (x := other) (l := l)
  have g1 := r_find_ge (l := l) (x := one)
  have g2 := r_find_ge (l := l) (x := other)
  unfold r_at e_min
  rcases h with h | h
  · rw [if_pos h] at f1
    rw [f1, if_pos (by omega)]
    by_cases c : 0 ≤ r_find (a :: l) other
    · rw [if_pos c, if_neg (by omega)]
    · rw [if_neg c]
  · rw [if_pos h] at f2
    rw [f2]
    by_cases c : 0 ≤ r_find (a :: l) one
    · rw [if_pos c, if_pos (by omega)]
      by_cases d : (0 : Int) < r_find (a :: l) one
      · rw [if_pos d]
      · rw [if_neg d]; omega
    · rw [if_neg c]
theorem r_at_S {a one other : Int} {l : List Int} (n1 : a ≠ one) (n2 : a ≠ other) (h : one ∈ l ∨ other ∈ l) : r_at (a :: l) one other = r_at l one other + 1 ∧ 0 ≤ r_at l one other := by
  have f1 := r_find_cons (a := a) (x := one) (l := l)
  have f2 := r_find_cons (a := a) (x := other) (l := l)
  rw [if_neg n1] at f1
  rw [if_neg n2] at f2
  have g1 := r_find_ge (l := l) (x := one)
  have g2 := r_find_ge (l := l) (x := other)
  have m1 := r_find_mem (l := l) (x := one)
  have m2 := r_find_mem (l := l) (x := other)
  have ge : 0 ≤ r_find l one ∨ 0 ≤ r_find l other := h.elim (fun z => Or.inl (m1.mpr z)) (fun z => Or.inr (m2.mpr z))
  unfold r_at e_min
  generalize r_find (a :: l) one = A at *
  generalize r_find (a :: l) other = B at *
  generalize r_find l one = C at *
  generalize r_find l other = D at *
  clear m1 m2 h
  by_cases c : C < 0
  · rw [if_pos c] at f1
    rw [if_neg (show ¬ D < 0 by omega)] at f2
    rw [if_neg (show ¬ 0 ≤ A by omega), if_neg (show ¬ 0 ≤ C by omega)]
    omega
  · rw [if_neg c] at f1
    rw [if_pos (show 0 ≤ A by omega), if_pos (show 0 ≤ C by omega)]
    by_cases d : D < 0
    · rw [if_pos d] at f2
      rw [if_neg (show ¬ 0 ≤ B by omega), if_neg (show ¬ 0 ≤ D by omega)]
      omega
    · rw [if_neg d] at f2
      rw [if_pos (show 0 ≤ B by omega), if_pos (show 0 ≤ D by omega)]
      by_cases e : D < C
      · rw [if_pos (show B < A by omega), if_pos e]; omega
      · rw [if_neg (show ¬ B < A by omega), if_neg e]; omega
theorem r_mrg_in {one other into : Int} (n0 : one ≠ other) (n1 : into ≠ one) (n2 : into ≠ other) : ∀ {l : List Int}, l.Nodup → (one ∈ l ∨ other ∈ l) → r_mrg l one other into = r_in (r_del (r_del l other) one) (r_at l one other).toNat into
  | [], _, h => by rcases h with h | h <;> cases h
  | a :: l, nd, h => by
    rw [List.nodup_cons] at nd
    rw [r_mrg_cons n1 n2]
    by_cases c : a = one ∨ a = other
    · rw [if_pos c, r_at_0 c]
      rcases c with c | c
      · subst c
        rw [r_del_no nd.1, r_del_cons, if_neg n0, r_del_cons, if_pos rfl]; rfl
      · subst c
        rw [r_del_no (fun z => nd.1 (r_del_sub z)), r_del_cons, if_pos rfl]; rfl
    · rw [if_neg c]
      have c1 : a ≠ one := fun z => c (Or.inl z)
      have c2 : a ≠ other := fun z => c (Or.inr z)
      have hl : one ∈ l ∨ other ∈ l := h.elim (fun z => Or.inl ((List.mem_cons.mp z).resolve_left (fun e => c1 e.symm))) (fun z => Or.inr ((List.mem_cons.mp z).resolve_left (fun e => c2 e.symm)))
      obtain ⟨s1, s2⟩ := r_at_S c1 c2 hl
      rw [r_mrg_in n0 n1 n2 nd.2 hl, s1, show (r_at l one other + 1).toNat = (r_at l one other).toNat + 1 by omega, r_del_cons, if_neg c2, r_del_cons, if_neg c1]; rfl
theorem r_at_le {l : List Int} {one other : Int} (h : one ∈ l ∨ other ∈ l) (n0 : one ≠ other) : 0 ≤ r_at l one other ∧ r_at l one other ≤ ((r_del (r_del l other) one).length : Int) ∧ (r_del (r_del l other) one).length < l.length := by
  induction l with
  | nil => rcases h with h | h <;> cases h
  | cons a l ih =>
    by_cases c : a = one ∨ a = other
    · rw [r_at_0 c]
      refine ⟨by omega, by omega, ?_⟩
      rcases c with c | c
      · subst c
        rw [r_del_cons, if_neg n0, r_del_cons, if_pos rfl, List.length_cons]
        have := r_del_le (l := l) (x := other)
        omega
      · subst c
        rw [r_del_cons, if_pos rfl, List.length_cons]
        have := r_del_le (l := l) (x := one)
        omega
    · have c1 : a ≠ one := fun z => c (Or.inl z)
      have c2 : a ≠ other := fun z => c (Or.inr z)
      have hl : one ∈ l ∨ other ∈ l := h.elim (fun z => Or.inl ((List.mem_cons.mp z).resolve_left (fun e => c1 e.symm))) (fun z => Or.inr ((List.mem_cons.mp z).resolve_left (fun e => c2 e.symm)))
      obtain ⟨s1, s2⟩ := r_at_S c1 c2 hl
      have := ih hl
      rw [s1, r_del_cons, if_neg c2, r_del_cons, if_neg c1, List.length_cons, List.length_cons]
      omega
