/-! the class's World: ORDERS, and the DEEDS in their order -/
theorem k_settle {M : e_M} {w : Nat} {at_ out : Int} {Q : e_M → Prop} (h1 : 0 ≤ at_ ∧ at_ < 150) (h2 : 0 ≤ M (w + 27) at_.toNat ∧ M (w + 27) at_.toNat < 150) (hd : 0 ≤ M w 10 ∧ M w 10 ≤ 1000) (hq : Q (if out = 0 then e_up (e_up M (w + 25) (M (w + 27) at_.toNat).toNat out) w 10 (M w 10 + 1) else e_up M (w + 25) (M (w + 27) at_.toNat).toNat out)) : WX10_settle w at_ out M Q := by
  unfold WX10_settle VX10_settle
  refine ⟨h1, h2, fun M1 e1 => ⟨fun ne => ?_, fun e => fun M2 e2 => ?_⟩⟩
  · rw [if_neg ne] at hq; rw [e1]; exact hq
  · rw [if_pos e] at hq
    have : M1 w 10 = M w 10 := by rw [e1, e_up_row (by omega)]
    rw [this, s_w (by omega) (by omega), e1] at e2
    rw [e2]; exact hq
/-- what the ORDERS do: fates and tellers, from the last ENTRY down -/
def v_st (od tg : Nat → Int) (i : Nat) (x : (Nat → Int) × (Nat → Int)) : (Nat → Int) × (Nat → Int) :=
  if x.1 i ≠ 23 ∨ tg i - 1 < 0 ∨ (i : Int) ≤ tg i - 1 then x
  else if od i = 222 then (s_fu x.1 (tg i - 1).toNat (if od (tg i - 1).toNat = 0 then 21 else 24), x.2)
  else if x.2 (tg i - 1).toNat = tg i - 1 then (x.1, s_fu x.2 (tg i - 1).toNat i) else x
def v_dn (od tg : Nat → Int) : Nat → (Nat → Int) × (Nat → Int) → (Nat → Int) × (Nat → Int)
  | 0, x => x
  | k + 1, x => v_dn od tg k (v_st od tg k x)
/-- the fates before the ORDERS are weighed -/
def v_f0 (cm od : Nat → Int) (known : Int) (n : Int) (f : Nat → Int) : Nat → Int := fun k => if (k : Int) < n then (if known < cm k then 22 else if od k = 0 then 0 else 23) else f k
def v_t0 (n : Int) (f : Nat → Int) : Nat → Int := fun k => if (k : Int) < n then (k : Int) else f k
/-- a DEED's number among slots, k, of the ENTRY i -/
def v_e (M : e_M) (k : Nat) : Nat → Int := fun i => M (M 2 i).toNat k
theorem k_weigh {M : e_M} {w : Nat} {Q : e_M → Prop} (hn : 0 ≤ M w 14 ∧ M w 14 ≤ 150) (hw : 24 < w) (hd : ∀ i : Nat, (i : Int) < M w 14 → (∀ k, M 2 i ≠ ((w + 25 + k : Nat) : Int) ∨ 1 < k) ∧ (0 ≤ v_e M 2 i ∧ v_e M 2 i ≤ 150)) (hq : ∀ M', M' (w + 25) = (v_dn (v_e M 1) (v_e M 2) (M w 14).toNat (v_f0 (v_e M 0) (v_e M 1) (M w 13) (M w 14) (M (w + 25)), v_t0 (M w 14) (M (w + 26)))).1 → M' (w + 26) = (v_dn (v_e M 1) (v_e M 2) (M w 14).toNat (v_f0 (v_e M 0) (v_e M 1) (M w 13) (M w 14) (M (w + 25)), v_t0 (M w 14) (M (w + 26)))).2 → (∀ b, b ≠ w + 25 → b ≠ w + 26 → M' b = M b) → Q M') : WX10_weighOrders w 2 M Q := by
  have ev : ∀ (N : e_M), (∀ b, b ≠ w + 25 → b ≠ w + 26 → N b = M b) → ∀ (i k : Nat), (i : Int) < M w 14 → N (N 2 i).toNat k = v_e M k i := by
    intro N hN i k hi
    rw [hN 2 (by omega) (by omega)]
    unfold v_e
    have h1 := (hd i hi).1
    have a0 := h1 0
    have a1 := h1 1
    by_cases c : 0 ≤ M 2 i
    · rw [hN _ (by omega) (by omega)]
    · rw [show (M 2 i).toNat = 0 by omega, hN 0 (by omega) (by omega)]
  unfold WX10_weighOrders VX10_weighOrders
  refine s_up (P := fun d i N => WX10_weighOrders_2 Q d w 2 i N) (n := M w 14) (fun i N => (∀ b, b ≠ w + 25 → b ≠ w + 26 → N b = M b) ∧ N (w + 25) = v_f0 (v_e M 0) (v_e M 1) (M w 13) i (M (w + 25)) ∧ N (w + 26) = v_t0 i (M (w + 26))) hn.1 ⟨fun _ _ _ => rfl, ?_, ?_⟩ ?_ ?_
  · funext k; unfold v_f0; rw [if_neg (by omega)]
  · funext k; unfold v_t0; rw [if_neg (by omega)]
  · intro d N ⟨hN, hf, ht⟩
    have ew : N w = M w := hN w (by omega) (by omega)
    refine ⟨fun _ => ?_, fun z => by rw [ew] at z; omega⟩
    rw [ew, s_w (by omega) (by omega)]
    -- down
    have key : ∀ (k : Nat) (N : e_M), (k : Int) ≤ M w 14 → (∀ b, b ≠ w + 25 → b ≠ w + 26 → N b = M b) → v_dn (v_e M 1) (v_e M 2) (M w 14).toNat (v_f0 (v_e M 0) (v_e M 1) (M w 13) (M w 14) (M (w + 25)), v_t0 (M w 14) (M (w + 26))) = v_dn (v_e M 1) (v_e M 2) k (N (w + 25), N (w + 26)) → WX10_weighOrders_79 Q (k + 1) w 2 ((k : Int) - 1) N := by
      intro k
      induction k with
      | zero =>
        intro N _ hN he
        refine ⟨fun _ => hq N ?_ ?_ hN, fun z => by omega⟩
        · rw [he]; rfl
        · rw [he]; rfl
      | succ k ih =>
        intro N hk hN he
        have ek : ((k + 1 : Nat) : Int) - 1 = (k : Int) := by omega
        rw [ek]
        have ekn : ((k : Nat) : Int).toNat = k := by omega
        have r1 : 0 ≤ (k : Int) ∧ (k : Int) < 150 := by omega
        have go : ∀ N' : e_M, (∀ b, b ≠ w + 25 → b ≠ w + 26 → N' b = M b) → (N' (w + 25), N' (w + 26)) = v_st (v_e M 1) (v_e M 2) k (N (w + 25), N (w + 26)) → WX10_weighOrders_169 (WX10_weighOrders_79 Q (k + 1)) Q w 2 k N' := by
          intro N' hN' e'
          show WX10_weighOrders_79 Q (k + 1) w 2 (e_w32 (k + -1)) N'
          rw [s_w (by omega) (by omega)]
          exact ih N' (by omega) hN' (by rw [he, e']; rfl)
        have vs := go
        unfold v_st at go
        dsimp only at go
        refine ⟨fun z => by omega, fun _ => ⟨r1, fun y1 ey => ⟨r1, ?_⟩⟩⟩
        rw [ekn] at ey ⊢
        have t1 := ev N hN k 2 (by omega)
        have htg := (hd k (by omega)).2
        rw [t1, s_w (by omega) (by omega)] at ey
        rw [← ey] at go
        refine ⟨fun ne => go N hN (by rw [if_pos (Or.inl ne)]), fun e23 => ⟨fun lt => go N hN (by rw [if_pos (Or.inr (Or.inl lt))]), fun ge => ⟨fun ylt => ⟨r1, ?_⟩, fun yle => go N hN (by rw [if_pos (Or.inr (Or.inr yle))])⟩⟩⟩
        have ry : 0 ≤ y1 ∧ y1 < 150 := by omega
        have n3 : ¬ (N (w + 25) k ≠ 23 ∨ y1 < 0 ∨ (k : Int) ≤ y1) := by omega
        rw [ev N hN k 1 (by omega)]
        refine ⟨fun ne => ⟨ry, fun ne2 => go N hN (by rw [if_neg n3, if_neg ne, if_neg ne2]), fun e2 => ⟨ry, fun M2 q2 => go M2 (fun b b25 b26 => by rw [q2, e_up_row b26, hN b b25 b26]) (by rw [if_neg n3, if_neg ne, if_pos e2, q2, e_up_row (by omega), s_fu_up])⟩⟩, fun e222 => ⟨ry, ?_⟩⟩
        rw [ev N hN y1.toNat 1 (by omega)]
        refine ⟨fun ne => ⟨ry, fun M1 q1 => go M1 (fun b b25 b26 => by rw [q1, e_up_row b25, hN b b25 b26]) ?_⟩, fun e0 => ⟨ry, fun M1 q1 => go M1 (fun b b25 b26 => by rw [q1, e_up_row b25, hN b b25 b26]) ?_⟩⟩
        · rw [if_neg n3, if_pos e222, if_neg ne, q1, e_up_row (a := w + 25) (b := w + 26) (by omega), s_fu_up]
        · rw [if_neg n3, if_pos e222, if_pos e0, q1, e_up_row (a := w + 25) (b := w + 26) (by omega), s_fu_up]
    refine ⟨(M w 14).toNat + 1, ?_⟩
    have := key (M w 14).toNat N (by omega) hN (by rw [hf, ht])
    rw [show (((M w 14).toNat : Nat) : Int) = M w 14 by omega] at this
    exact this
  · intro d i N k1 k2 ⟨hN, hf, ht⟩ ih
    have ew : N w = M w := hN w (by omega) (by omega)
    have r1 : 0 ≤ i ∧ i < 150 := by omega
    refine ⟨fun z => by rw [ew] at z; omega, fun _ => ⟨r1, ?_⟩⟩
    rw [ew, ev N hN i.toNat 0 (by omega)]
    have fin : ∀ (L : e_M) (v : Int), (∀ b, b ≠ w + 25 → b ≠ w + 26 → L b = M b) → L (w + 25) = v_f0 (v_e M 0) (v_e M 1) (M w 13) i (M (w + 25)) → L (w + 26) = v_t0 (i + 1) (M (w + 26)) → v = (if M w 13 < v_e M 0 i.toNat then 22 else if v_e M 1 i.toNat = 0 then 0 else 23) → WX10_weighOrders_65 (WX10_weighOrders_2 Q d) Q w 2 i v i (w + 25) L := by
      intro L v l1 l2 l3 l4
      refine ⟨r1, fun M1 q1 => ?_⟩
      show WX10_weighOrders_2 Q d w 2 (e_w32 (i + 1)) M1
      rw [s_w (by omega) (by omega)]
      refine ih M1 ⟨fun b b25 b26 => by rw [q1, e_up_row b25, l1 b b25 b26], ?_, by rw [q1, e_up_row (by omega), l3]⟩
      rw [q1, s_fu_up, l2, l4]
      funext k
      unfold s_fu v_f0
      by_cases c : k = i.toNat
      · rw [if_pos c, if_pos (show (k : Int) < i + 1 by omega), c]
      · rw [if_neg c]
        by_cases c2 : (k : Int) < i
        · rw [if_pos c2, if_pos (show (k : Int) < i + 1 by omega)]
        · rw [if_neg c2, if_neg (show ¬ (k : Int) < i + 1 by omega)]
    have tt : ∀ L : e_M, L = e_up N (w + 26) i.toNat i → (∀ b, b ≠ w + 25 → b ≠ w + 26 → L b = M b) ∧ L (w + 25) = v_f0 (v_e M 0) (v_e M 1) (M w 13) i (M (w + 25)) ∧ L (w + 26) = v_t0 (i + 1) (M (w + 26)) := by
      intro L q
      refine ⟨fun b b25 b26 => by rw [q, e_up_row b26, hN b b25 b26], by rw [q, e_up_row (by omega), hf], ?_⟩
      rw [q, s_fu_up, ht]
      funext k
      unfold s_fu v_t0
      by_cases c : k = i.toNat
      · rw [if_pos c, if_pos (by omega)]; omega
      · rw [if_neg c]
        by_cases c2 : (k : Int) < i
        · rw [if_pos c2, if_pos (by omega)]
        · rw [if_neg c2, if_neg (by omega)]
    refine ⟨fun lt => ⟨r1, fun L q => ⟨fun z => absurd rfl z, fun _ => ?_⟩⟩, fun le => ⟨r1, fun L q => ⟨fun _ => ⟨r1, ?_⟩, fun z => by omega⟩⟩⟩
    · obtain ⟨t1, t2, t3⟩ := tt L q
      exact fin L 22 t1 t2 t3 (by rw [if_pos lt])
    · obtain ⟨t1, t2, t3⟩ := tt L q
      rw [ev L t1 i.toNat 1 (by omega)]
      exact ⟨fun ne => fin L 23 t1 t2 t3 (by rw [if_neg (by omega), if_neg ne]), fun e => fin L 0 t1 t2 t3 (by rw [if_neg (by omega), if_pos e])⟩
