/-! THE MODEL: what the ORDERS do -/
/-- the ENTRIES as the model keeps them: when they came, what they order, of which -/
def E_j (M : e_M) (n : Int) (cm od tg : Nat → Int) : Prop := (0 ≤ n ∧ n ≤ 150) ∧ M 4456 33 = n ∧ (∀ i : Nat, (i : Int) < n → M 4477 (i + 1) = cm i ∧ ((od i = 0 ∧ M 4478 (i + 1) = 0) ∨ ((od i = 222 ∨ od i = 223) ∧ M 4478 (i + 1) = tg i ∧ 1 ≤ tg i ∧ tg i ≤ i)) ∧ (M 4479 (i + 1) = 0 ↔ od i ≠ 222)) ∧ ∀ i j : Nat, i ≤ j → (j : Int) < n → cm i ≤ cm j
theorem E_j_congr {M N : e_M} {n : Int} {cm od tg : Nat → Int} (h : E_j M n cm od tg) (f1 : N 4477 = M 4477) (f2 : N 4478 = M 4478) (f3 : N 4479 = M 4479) (f4 : N 4456 33 = M 4456 33) : E_j N n cm od tg := by
  unfold E_j at *
  rw [f1, f2, f3, f4]; exact h
/-- the fate of an ENTRY, out of what the model knows -/
def F_v (known : Int) (cm od : Nat → Int) (M : e_M) (i : Nat) : Int := if known < cm i then 22 else if od i = 0 then (if M 4522 (i + 1) = 0 then 0 else 21) else (if M 4522 (i + 1) = 0 then 23 else 24)
theorem F_v_23 {known : Int} {cm od : Nat → Int} {M : e_M} {i : Nat} : F_v known cm od M i = 23 ↔ ¬ known < cm i ∧ od i ≠ 0 ∧ M 4522 (i + 1) = 0 := by
  unfold F_v
  by_cases c1 : known < cm i
  · rw [if_pos c1]; exact ⟨fun z => by omega, fun z => absurd c1 z.1⟩
  · rw [if_neg c1]
    by_cases c2 : od i = 0
    · rw [if_pos c2]
      by_cases c3 : M 4522 (i + 1) = 0
      · rw [if_pos c3]; exact ⟨fun z => by omega, fun z => absurd c2 z.2.1⟩
      · rw [if_neg c3]; exact ⟨fun z => by omega, fun z => absurd c2 z.2.1⟩
    · rw [if_neg c2]
      by_cases c3 : M 4522 (i + 1) = 0
      · rw [if_pos c3]; exact ⟨fun _ => ⟨c1, c2, c3⟩, fun _ => rfl⟩
      · rw [if_neg c3]; exact ⟨fun z => by omega, fun z => absurd z.2.2 c3⟩
theorem m_judge {M : e_M} {n known : Int} {cm od tg f t : Nat → Int} {Q : e_M → Prop} (h : E_j M n cm od tg)
    (hq : ∀ M', (∀ b, b ≠ 4521 → b ≠ 4522 → b ≠ 4523 → M' b = M b) → (∀ i : Nat, (i : Int) < n → (M' 4523 (i + 1) = (v_dn od tg n.toNat (v_f0 cm od known n f, v_t0 n t)).2 i + 1 ∧ 0 ≤ (v_dn od tg n.toNat (v_f0 cm od known n f, v_t0 n t)).2 i ∧ (v_dn od tg n.toNat (v_f0 cm od known n f, v_t0 n t)).2 i < n) ∧ (v_dn od tg n.toNat (v_f0 cm od known n f, v_t0 n t)).1 i = F_v known cm od M' i ∧ (M' 4521 (i + 1) = 0 ↔ (v_dn od tg n.toNat (v_f0 cm od known n f, v_t0 n t)).1 i ≠ 23) ∧ ((v_dn od tg n.toNat (v_f0 cm od known n f, v_t0 n t)).2 i = i ∨ od ((v_dn od tg n.toNat (v_f0 cm od known n f, v_t0 n t)).2 i).toNat = 223)) → Q M') : WX12_judge known M Q := by
  obtain ⟨⟨n0, n150⟩, e33, he, hcm⟩ := id h
  generalize hX : v_dn od tg n.toNat (v_f0 cm od known n f, v_t0 n t) = X at *
  unfold WX12_judge VX12_judge
  refine s_up (σ := e_M) (P := fun dd i N => WX12_judge_2 Q dd known i N) (n := n + 1) (i0 := 1) (s := M) (fun x N => (∀ b, b ≠ 4521 → b ≠ 4522 → b ≠ 4523 → N b = M b) ∧ ∀ i : Nat, (i : Int) + 1 < x → N 4521 (i + 1) = 0 ∧ N 4522 (i + 1) = 0 ∧ N 4523 (i + 1) = (i : Int) + 1) (by omega) ⟨fun _ _ _ _ => rfl, fun i hi => by omega⟩ ?_ ?_
  · intro d2 N ⟨fr, hN⟩
    unfold WX12_judge_2 VX12_judge_2
    rw [fr 4456 (by omega) (by omega) (by omega), e33]
    refine ⟨fun _ => ?_, fun z => by omega⟩
    -- from the last ENTRY down
    show ∃ j, WX12_judge_42 Q j known n N
    refine ⟨_, s_iter (σ := Int × ((Nat → Int) × (Nat → Int)) × e_M) (P := fun dd s => WX12_judge_42 Q dd known s.1 s.2.2) (fun s => s.1.toNat) (fun s => (0 ≤ s.1 ∧ s.1 ≤ n) ∧ X = v_dn od tg s.1.toNat s.2.1 ∧ (∀ b, b ≠ 4521 → b ≠ 4522 → b ≠ 4523 → s.2.2 b = M b) ∧ (∀ i : Nat, (i : Int) < n → (s.2.2 4523 (i + 1) = s.2.1.2 i + 1 ∧ 0 ≤ s.2.1.2 i ∧ s.2.1.2 i < n) ∧ s.2.1.1 i = F_v known cm od s.2.2 i ∧ (s.1 ≤ i → (s.2.2 4521 (i + 1) = 0 ↔ s.2.1.1 i ≠ 23)) ∧ ((i : Int) < s.1 → s.2.2 4521 (i + 1) = 0) ∧ (s.2.1.2 i = i ∨ od (s.2.1.2 i).toNat = 223))) ?_ _ (n, (v_f0 cm od known n f, v_t0 n t), N) ⟨⟨n0, Int.le_refl n⟩, hX.symm, fr, fun i hi => ?_⟩ (Nat.lt_succ_self _)⟩
    · intro d3 ⟨x, ⟨F, T⟩, L⟩ ⟨⟨x0, xn⟩, eX, fL, hL⟩ ih
      dsimp only at x0 xn eX fL hL ih ⊢
      unfold WX12_judge_42 VX12_judge_42
      refine ⟨fun lt => ?_, fun ge => ?_⟩
      · have x00 : x = 0 := by omega
        subst x00
        have eX' : X = (F, T) := eX
        rw [eX'] at hq
        exact hq L fL (fun i hi => ⟨(hL i hi).1, (hL i hi).2.1, (hL i hi).2.2.1 (by omega), (hL i hi).2.2.2.2⟩)
      · obtain ⟨k, ek⟩ : ∃ k : Nat, x = ((k + 1 : Nat) : Int) := ⟨(x - 1).toNat, by omega⟩
        subst ek
        have tk : (((k + 1 : Nat)) : Int).toNat = k + 1 := by omega
        have kn : (k : Int) < n := by omega
        obtain ⟨a1, a2, a3⟩ := he k kn
        obtain ⟨⟨l1, l1a, l1b⟩, l2, l3, l4, l5⟩ := hL k kn
        rw [tk] at eX
        have eX2 : X = v_dn od tg k (v_st od tg k (F, T)) := eX
        have k141 : ∀ (FT : (Nat → Int) × (Nat → Int)) (L' : e_M), v_st od tg k (F, T) = FT → (∀ b, b ≠ 4521 → b ≠ 4522 → b ≠ 4523 → L' b = M b) → (∀ i : Nat, (i : Int) < n → (L' 4523 (i + 1) = FT.2 i + 1 ∧ 0 ≤ FT.2 i ∧ FT.2 i < n) ∧ FT.1 i = F_v known cm od L' i ∧ ((k : Int) ≤ i → (L' 4521 (i + 1) = 0 ↔ FT.1 i ≠ 23)) ∧ ((i : Int) < k → L' 4521 (i + 1) = 0) ∧ (FT.2 i = i ∨ od (FT.2 i).toNat = 223)) → WX12_judge_141 (WX12_judge_42 Q d3) Q known (((k + 1 : Nat)) : Int) L' := fun FT L' ef f' h' => by
          unfold WX12_judge_141 VX12_judge_141
          rw [s_w (x := (((k + 1 : Nat)) : Int) + (-1)) (by omega) (by omega), show (((k + 1 : Nat)) : Int) + (-1) = (k : Int) by omega]
          exact ih ((k : Int), FT, L') ⟨⟨by show (0 : Int) ≤ k; omega, by show (k : Int) ≤ n; omega⟩, by rw [eX2, ef]; rfl, f', h'⟩ (by show ((k : Int)).toNat < (((k + 1 : Nat)) : Int).toNat; omega)
        -- an ENTRY that does not count
        have skip : F k ≠ 23 → WX12_judge_141 (WX12_judge_42 Q d3) Q known (((k + 1 : Nat)) : Int) L := fun ne => by
          refine k141 (F, T) L (if_pos (Or.inl ne)) fL (fun i hi => ?_)
          obtain ⟨b1, b2, b3, b4, b5⟩ := hL i hi
          refine ⟨b1, b2, fun ge => ?_, fun lt => b4 (by omega), b5⟩
          by_cases c : i = k
          · subst c
            exact ⟨fun _ => ne, fun _ => b4 (by omega)⟩
          · exact b3 (by omega)
        rw [tk, fL 4477 (by omega) (by omega) (by omega), a1, fL 4478 (by omega) (by omega) (by omega)]
        refine ⟨by omega, fun lt => skip (fun z => ?_), fun le => ⟨by omega, fun e0 => skip (fun z => ?_), fun ne0 => ⟨by omega, fun e2 => ?_, fun ne2 => skip (fun z => ?_)⟩⟩⟩
        · rw [l2] at z; exact (F_v_23.mp z).1 lt
        · rw [l2] at z
          have := (F_v_23.mp z).2.1
          rcases a2 with a2 | a2
          · exact this a2.1
          · omega
        · -- it counts
          have ho : (od k = 222 ∨ od k = 223) ∧ M 4478 (k + 1) = tg k ∧ 1 ≤ tg k ∧ tg k ≤ k := by
            rcases a2 with a2 | a2
            · exact absurd a2.2 ne0
            · exact a2
          obtain ⟨o1, o2, o3, o4⟩ := ho
          have F23 : F k = 23 := by rw [l2]; exact F_v_23.mpr ⟨by omega, by omega, e2⟩
          obtain ⟨g, eg⟩ : ∃ g : Nat, tg k = ((g + 1 : Nat) : Int) := ⟨(tg k - 1).toNat, by omega⟩
          have gk : g < k := by omega
          have tg1 : (tg k - 1).toNat = g := by omega
          have tgg : (((g + 1 : Nat)) : Int).toNat = g + 1 := by omega
          have est : v_st od tg k (F, T) = if od k = 222 then (s_fu F g (if od g = 0 then 21 else 24), T) else if T g = (g : Int) then (F, s_fu T g k) else (F, T) := by
            unfold v_st
            rw [if_neg (show ¬ (F k ≠ 23 ∨ tg k - 1 < 0 ∨ (k : Int) ≤ tg k - 1) by omega), tg1, show tg k - 1 = (g : Int) by omega]
          refine ⟨⟨by omega, Or.inr rfl⟩, fun M1 e1 => ?_⟩
          have c21 : ∀ j, M1 4521 j = if j = k + 1 then 1 else L 4521 j := fun j => by rw [e1, e_up_at]
          have f1 : ∀ b, b ≠ 4521 → M1 b = L b := fun b hb => by rw [e1, e_up_row hb]
          have fM1 : ∀ b, b ≠ 4521 → b ≠ 4522 → b ≠ 4523 → M1 b = M b := fun b b1 b2 b3 => by rw [f1 b b1]; exact fL b b1 b2 b3
          have i21 : ∀ i : Nat, (i : Int) < n → ((k : Int) ≤ i → (M1 4521 (i + 1) = 0 ↔ F i ≠ 23)) ∧ ((i : Int) < k → M1 4521 (i + 1) = 0) := fun i hi => by
            obtain ⟨b1, b2, b3, b4, b5⟩ := hL i hi
            rw [c21]
            by_cases c : i = k
            · subst c
              rw [if_pos rfl]
              exact ⟨fun _ => ⟨fun z => by omega, fun z => absurd F23 z⟩, fun z => by omega⟩
            · rw [if_neg (by omega)]
              exact ⟨fun z => b3 (by omega), fun z => b4 (by omega)⟩
          rw [fM1 4479 (by omega) (by omega) (by omega), fM1 4478 (by omega) (by omega) (by omega), o2, eg, tgg]
          refine ⟨by omega, fun z9 => ⟨by omega, by omega, by omega, ?_⟩, fun n9 => ⟨by omega, ⟨by omega, Or.inr rfl⟩, fun M3 e3 => ?_⟩⟩
          · have n222 := a3.mp z9
            rw [if_neg n222] at est
            rw [f1 4523 (by omega), (hL g (by omega)).1.1]
            refine ⟨fun ne => ?_, fun e => ⟨by omega, by omega, fun M2 e2' => ?_⟩⟩
            · rw [if_neg (show ¬ T g = (g : Int) by omega)] at est
              refine k141 (F, T) M1 est fM1 (fun i hi => ?_)
              obtain ⟨b1, b2, b3, b4, b5⟩ := hL i hi
              exact ⟨by rw [f1 4523 (by omega)]; exact b1, by unfold F_v; rw [f1 4522 (by omega)]; exact b2, (i21 i hi).1, (i21 i hi).2, b5⟩
            · rw [if_pos (show T g = (g : Int) by omega)] at est
              have c23 : ∀ j, M2 4523 j = if j = g + 1 then (((k + 1 : Nat)) : Int) else M1 4523 j := fun j => by rw [e2', e_up_at]
              have f2 : ∀ b, b ≠ 4523 → M2 b = M1 b := fun b hb => by rw [e2', e_up_row hb]
              refine k141 (F, s_fu T g k) M2 est (fun b b1 b2 b3 => by rw [f2 b b3]; exact fM1 b b1 b2 b3) (fun i hi => ?_)
              obtain ⟨b1, b2, b3, b4, b5⟩ := hL i hi
              refine ⟨?_, by unfold F_v; rw [f2 4522 (by omega), f1 4522 (by omega)]; exact b2, by rw [f2 4521 (by omega)]; exact (i21 i hi).1, by rw [f2 4521 (by omega)]; exact (i21 i hi).2, ?_⟩
              · rw [c23]
                by_cases c : i = g
                · subst c
                  rw [if_pos rfl]
                  show _ = s_fu T i k i + 1 ∧ 0 ≤ s_fu T i k i ∧ s_fu T i k i < n
                  rw [s_fu_eq]; omega
                · rw [if_neg (by omega)]
                  show _ = s_fu T g k i + 1 ∧ 0 ≤ s_fu T g k i ∧ s_fu T g k i < n
                  rw [s_fu_ne c, f1 4523 (by omega)]; exact b1
              · by_cases c : i = g
                · subst c
                  refine Or.inr ?_
                  show od (s_fu T i k i).toNat = 223
                  rw [s_fu_eq, show ((k : Int)).toNat = k by omega]; omega
                · show s_fu T g k i = i ∨ od (s_fu T g k i).toNat = 223
                  rw [s_fu_ne c]; exact b5
          · have y222 : od k = 222 := Classical.byContradiction (fun c => n9 (a3.mpr c))
            rw [if_pos y222] at est
            have c22 : ∀ j, M3 4522 j = if j = g + 1 then 1 else M1 4522 j := fun j => by rw [e3, e_up_at]
            have f3 : ∀ b, b ≠ 4522 → M3 b = M1 b := fun b hb => by rw [e3, e_up_row hb]
            refine k141 (s_fu F g (if od g = 0 then 21 else 24), T) M3 est (fun b b1 b2 b3 => by rw [f3 b b2]; exact fM1 b b1 b2 b3) (fun i hi => ?_)
            obtain ⟨b1, b2, b3, b4, b5⟩ := hL i hi
            refine ⟨by rw [f3 4523 (by omega), f1 4523 (by omega)]; exact b1, ?_, ?_, by rw [f3 4521 (by omega)]; exact (i21 i hi).2, b5⟩
            · by_cases c : i = g
              · subst c
                show s_fu F i _ i = _
                rw [s_fu_eq]
                unfold F_v
                have hm := hcm i k (by omega) kn
                have z22 : M3 4522 (i + 1) = 1 := by rw [c22, if_pos rfl]
                rw [if_neg (show ¬ known < cm i by omega), z22, if_neg (show ¬ (1 : Int) = 0 by decide), if_neg (show ¬ (1 : Int) = 0 by decide)]
              · show s_fu F g _ i = _
                have z22 : M3 4522 (i + 1) = L 4522 (i + 1) := by rw [c22, if_neg (by omega), f1 4522 (by omega)]
                rw [s_fu_ne c, b2]
                unfold F_v
                rw [z22]
            · intro ge'
              rw [f3 4521 (by omega)]
              show _ ↔ s_fu F g _ i ≠ 23
              rw [s_fu_ne (by omega)]
              exact (i21 i hi).1 ge'
        · rw [l2] at z; exact ne2 (F_v_23.mp z).2.2
    · obtain ⟨b1, b2, b3⟩ := hN i (by omega)
      have t0 : v_t0 n t i = (i : Int) := if_pos hi
      refine ⟨?_, ?_, fun z => by omega, fun _ => b1, Or.inl ?_⟩
      · show N 4523 (i + 1) = v_t0 n t i + 1 ∧ 0 ≤ v_t0 n t i ∧ v_t0 n t i < n
        rw [t0]; omega
      · show v_f0 cm od known n f i = F_v known cm od N i
        unfold v_f0 F_v
        rw [if_pos hi, b2, if_pos rfl, if_pos rfl]
      · exact t0
  · intro d2 x N x1 x2 ⟨fr, hN⟩ ih
    obtain ⟨k, ek⟩ : ∃ k : Nat, x = ((k + 1 : Nat) : Int) := ⟨(x - 1).toNat, by omega⟩
    subst ek
    have tk : (((k + 1 : Nat)) : Int).toNat = k + 1 := by omega
    unfold WX12_judge_2 VX12_judge_2
    rw [fr 4456 (by omega) (by omega) (by omega), e33, tk]
    refine ⟨fun z => by omega, fun _ => ⟨⟨by omega, Or.inl rfl⟩, fun M1 e1 => ⟨⟨by omega, Or.inl rfl⟩, fun M2 e2 => ⟨by omega, fun M3 e3 => ?_⟩⟩⟩⟩
    rw [s_w (x := (((k + 1 : Nat)) : Int) + 1) (by omega) (by omega)]
    refine ih M3 ⟨fun b b1 b2 b3 => by rw [e3, e_up_row b3, e2, e_up_row b2, e1, e_up_row b1]; exact fr b b1 b2 b3, fun i hi => ?_⟩
    have c1 : M3 4521 (i + 1) = if i + 1 = k + 1 then 0 else N 4521 (i + 1) := by rw [e3, e_up_row (by omega), e2, e_up_row (by omega), e1, e_up_at]
    have c2 : M3 4522 (i + 1) = if i + 1 = k + 1 then 0 else N 4522 (i + 1) := by rw [e3, e_up_row (by omega), e2, e_up_at, e1, e_up_row (by omega)]
    have c3 : M3 4523 (i + 1) = if i + 1 = k + 1 then (((k + 1 : Nat)) : Int) else N 4523 (i + 1) := by rw [e3, e_up_at, e2, e_up_row (by omega), e1, e_up_row (by omega)]
    rw [c1, c2, c3]
    by_cases c : i = k
    · subst c
      rw [if_pos rfl, if_pos rfl, if_pos rfl]
      exact ⟨rfl, rfl, by omega⟩
    · rw [if_neg (by omega), if_neg (by omega), if_neg (by omega)]
      exact hN i (by omega)
