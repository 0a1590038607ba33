/-! Acts: death -/
/-- the cells that may have changed: what the World holds, and the draft -/
def e_fr (M M' : e_M) (w : Nat) : Prop := ∀ b, b ≠ w + 24 → (b < w + 29 ∨ w + 2199 ≤ b) → b ≠ 4443 → b ≠ 4449 → b ≠ 4450 → b ≠ 4451 → M' b = M b
theorem e_fr_d {M M' : e_M} {w : Nat} (h : d_fr M M') : e_fr M M' w := fun b _ _ b3 b4 b5 b6 => h b b3 b4 b5 b6
theorem e_fr_w {M M' : e_M} {w : Nat} (h : w_fr M M' w) : e_fr M M' w := fun b b1 b2 _ _ _ _ => h b b1 b2
theorem e_fr_a {M M' : e_M} {w : Nat} (h : e_fr M M' w) : a_fr M M' w := fun b b1 b2 b3 => h b b1 b2 (by omega) (by omega) (by omega) (by omega)
theorem e_fr_trans {M N L : e_M} {w : Nat} (h1 : e_fr M N w) (h2 : e_fr N L w) : e_fr M L w := fun b b1 b2 b3 b4 b5 b6 => by rw [h2 b b1 b2 b3 b4 b5 b6, h1 b b1 b2 b3 b4 b5 b6]
theorem e_fr_refl {M : e_M} {w : Nat} : e_fr M M w := fun _ _ _ _ _ _ _ => rfl
theorem e_fr_dd {M N : e_M} {w d : Nat} {at_ : Int} (hw : a_w w) (cx : a_cx M w d at_) (hd : a_d w d) (f : e_fr M N w) : a_cx N w d at_ ∧ N 4425 = M 4425 ∧ (∀ k, k ≤ 6 → N (d + k) = M (d + k)) := by
  unfold a_w at hw
  unfold a_d at hd
  refine ⟨a_cx_congr cx (f _ (by omega) (by omega) (by omega) (by omega) (by omega) (by omega)), f _ (by omega) (by omega) (by omega) (by omega) (by omega) (by omega), fun k hk => f _ (by omega) (by omega) (by omega) (by omega) (by omega) (by omega)⟩
theorem s_dd_congr {M N : e_M} {d : Nat} (h : ∀ k, k ≤ 6 → N (d + k) = M (d + k)) : N d = M d ∧ s_dpt N d = s_dpt M d ∧ s_dnm N d = s_dnm M d ∧ s_dps N d = s_dps M d ∧ (s_dok M d → s_dok N d) := by
  have h0 := h 0 (by omega)
  rw [Nat.add_zero] at h0
  refine ⟨h0, ?_, ?_, ?_, ?_⟩
  · unfold s_dpt; rw [h0, h 3 (by omega), h 4 (by omega)]
  · unfold s_dnm; rw [h0, h 1 (by omega), h 2 (by omega)]
  · unfold s_dps; rw [h0, h 5 (by omega), h 6 (by omega)]
  · unfold s_dok; rw [h0]; exact id
theorem d_fr_w {M N : e_M} {w : Nat} (h : w_ok M w) (hw : a_w w) (f : d_fr M N) : w_ok N w ∧ w_of N w = w_of M w := by
  unfold a_w at hw
  exact w_same h (fun b b1 b2 => f b (by omega) (by omega) (by omega) (by omega))
/-- the OWNERS of a LOT behind a death, if it is there and the dead one has a share in it -/
def l_heir (l : w_L) (dead : Int) (r : Nat → Int) (ps : List (Int × Int)) : Option s_Own := if l.1 1 = 0 ∧ 0 ≤ o_fd l.2.2.2 dead then (l.2.2.2[(o_fd l.2.2.2 dead).toNat]?).map (fun q => o_heirs l.2.2.2 q dead r ps) else none
theorem k_heirs2 {M : e_M} {w d : Nat} {at_ l dead : Int} {Q : Int → e_M → Prop} (h : w_ok M w) (hw : a_w w) (cx : a_cx M w d at_) (hd : a_d w d) (hdo : s_dok M d) (hpk : d_pok (s_dpt M d)) (hl : 0 ≤ l ∧ l < M (w + 24) 0) (hob : s_ob 1000000 (w_l (w_of M w) l.toNat).2.2.2) (hnd : ∀ i j : Nat, 1 ≤ i → i < j → (j : Int) ≤ M d 15 → M 4425 i ≠ M 4425 j)
    (q0 : l_heir (w_l (w_of M w) l.toNat) dead (M 4425) (s_dpt M d) = none → Q 0 M)
    (q1 : ∀ o, l_heir (w_l (w_of M w) l.toNat) dead (M 4425) (s_dpt M d) = some o → ∀ M', s_own M' 4443 = o → s_ook M' 4443 → d_fr M M' → Q 1 M') : WX0_draftHeirs l dead M Q := by
  refine k_heirs h hw cx hd hdo hpk hl hob hnd (fun ne => q0 ?_) (fun e1 q ge hq M' m1 m2 m3 => q1 _ ?_ M' m1 m2 m3)
  · unfold l_heir; rw [if_neg ne]
  · unfold l_heir; rw [if_pos ⟨e1, ge⟩, hq]; rfl
def w_hs (S : w_S) (dead : Int) (r : Nat → Int) (ps : List (Int × Int)) (k : Nat) : w_S := (S.1, fun i => if i < k then (match l_heir (S.2.1 i) dead r ps with | some o => ((S.2.1 i).1, (S.2.1 i).2.1, (S.2.1 i).2.2.1, o) | none => S.2.1 i) else S.2.1 i, S.2.2)
theorem w_hs_0 {S : w_S} {dead : Int} {r : Nat → Int} {ps : List (Int × Int)} : w_hs S dead r ps 0 = S := by
  unfold w_hs
  refine Prod.ext rfl (Prod.ext (funext fun i => ?_) rfl)
  dsimp only
  rw [if_neg (Nat.not_lt_zero i)]
theorem w_hs_at {S : w_S} {dead : Int} {r : Nat → Int} {ps : List (Int × Int)} {k : Nat} : (w_hs S dead r ps k).2.1 k = S.2.1 k := if_neg (by omega)
theorem w_hs_none {S : w_S} {dead : Int} {r : Nat → Int} {ps : List (Int × Int)} {k : Nat} (h : l_heir (S.2.1 k) dead r ps = none) : w_hs S dead r ps (k + 1) = w_hs S dead r ps k := by
  unfold w_hs
  refine Prod.ext rfl (Prod.ext (funext fun i => ?_) rfl)
  show (if i < k + 1 then _ else _) = (if i < k then _ else _)
  by_cases c : i < k
  · rw [if_pos c, if_pos (by omega)]
  · rw [if_neg c]
    by_cases e : i = k
    · subst e; rw [if_pos (by omega), h]
    · rw [if_neg (by omega)]
theorem w_hs_some {S : w_S} {dead : Int} {r : Nat → Int} {ps : List (Int × Int)} {k : Nat} {o : s_Own} (h : l_heir (S.2.1 k) dead r ps = some o) : w_hs S dead r ps (k + 1) = w_ows (w_hs S dead r ps k) k o := by
  unfold w_ows w_setL
  rw [w_hs_at]
  refine Prod.ext rfl (Prod.ext (funext fun i => ?_) rfl)
  show (if i < k + 1 then _ else _) = s_fu (fun i => if i < k then _ else _) k _ i
  unfold s_fu
  by_cases e : i = k
  · subst e; rw [if_pos (by omega), h, if_pos rfl]
  · rw [if_neg e]
    show (if i < k + 1 then _ else _) = (if i < k then _ else _)
    by_cases c : i < k
    · rw [if_pos c, if_pos (by omega)]
    · rw [if_neg c, if_neg (by omega)]
def d_fine (S : w_S) (dead : Int) (r : Nat → Int) (ps : List (Int × Int)) : Prop := ∃ i : Nat, (i : Int) < w_z S 0 ∧ ∃ o, l_heir (w_l S i) dead r ps = some o ∧ ∃ q ∈ o, 1000000 < q.2.2
def d_full (S : w_S) (dead : Int) (r : Nat → Int) (ps : List (Int × Int)) : Prop := ∃ i : Nat, (i : Int) < w_z S 0 ∧ ∃ o, l_heir (w_l S i) dead r ps = some o ∧ 8 < o.length
theorem k_die {M : e_M} {w d : Nat} {at_ : Int} {Q : Int → e_M → Prop} (h : w_ok M w) (hr : w_rg (w_of M w)) (hw : a_w w) (cx : a_cx M w d at_) (hd : a_d w d) (hdo : s_dok M d) (hpk : d_pok (s_dpt M d)) (h0 : 0 ≤ M 4425 0 ∧ M 4425 0 < M (w + 24) 1) (ht : 0 < M d 15 → M d 7 = M d 15 + 1)
    (q6 : 0 < M d 15 → (a_mixed (M 4425) 1 (M d 7) (M 4425 0) ∨ d_wh (s_dpt M d) 0 1 = false) → a_q M w Q 6 (w_of M w))
    (q6f : (0 < M d 15 → ¬ a_mixed (M 4425) 1 (M d 7) (M 4425 0) ∧ d_wh (s_dpt M d) 0 1 = true) → d_fine (w_of M w) (M 4425 0) (M 4425) (s_dpt M d) → a_q M w Q 6 (w_of M w))
    (q7 : (0 < M d 15 → ¬ a_mixed (M 4425) 1 (M d 7) (M 4425 0) ∧ d_wh (s_dpt M d) 0 1 = true) → ¬ d_fine (w_of M w) (M 4425 0) (M 4425) (s_dpt M d) → d_full (w_of M w) (M 4425 0) (M 4425) (s_dpt M d) → a_q M w Q 7 (w_of M w))
    (q0 : (0 < M d 15 → ¬ a_mixed (M 4425) 1 (M d 7) (M 4425 0) ∧ d_wh (s_dpt M d) 0 1 = true) → ¬ d_fine (w_of M w) (M 4425 0) (M 4425) (s_dpt M d) → ¬ d_full (w_of M w) (M 4425 0) (M 4425) (s_dpt M d) → a_q M w Q 0 (w_put (w_map (w_hs (w_of M w) (M 4425 0) (M 4425) (s_dpt M d) (M (w + 24) 0).toNat) 2 6 (t_ends (M 4425 0) (if 0 < M d 15 then M 4425 1 else 0))) (w_F 1 + (M 4425 0).toNat) 2 1)) : WX0_die M Q := by
  have hz := w_zb h (show 0 < 8 by omega)
  have hm : w_mx 0 = 80 := rfl
  have hw' := hw
  unfold a_w at hw'
  have hd7 := hdo.1
  unfold WX0_die VX0_die
  rw [cx.2.1, show (0 : Int).toNat = 0 from rfl]
  have main : (0 < M d 15 → ¬ a_mixed (M 4425) 1 (M d 7) (M 4425 0) ∧ d_wh (s_dpt M d) 0 1 = true) → WX0_die_39 Q (M 4425 0) M := by
    intro hc
    have hnd : ∀ i j : Nat, 1 ≤ i → i < j → (j : Int) ≤ M d 15 → M 4425 i ≠ M 4425 j := by
      intro i j i1 i2 i3 e
      have p : 0 < M d 15 := by omega
      have := ht p
      exact (hc p).1 ⟨j, by omega, by omega, Or.inr ⟨i, by omega, i2, e.symm⟩⟩
    replace q6f := q6f hc
    replace q7 := q7 hc
    replace q0 := q0 hc
    have drf : ∀ N : e_M, d_fr M N → (w_ok N w ∧ w_of N w = w_of M w) ∧ (a_cx N w d at_ ∧ N 4425 = M 4425 ∧ (∀ k, k ≤ 6 → N (d + k) = M (d + k))) ∧ a_fr M N w := fun N f => ⟨d_fr_w h hw f, e_fr_dd hw cx hd (e_fr_d f), e_fr_a (e_fr_d f)⟩
    show ∃ j, WX0_die_43 Q j (M 4425 0) 0 0 M
    refine s_up (σ := Int × e_M) (P := fun dd i s => WX0_die_43 Q dd (M 4425 0) s.1 i s.2) (n := M (w + 24) 0) (i0 := 0) (s := (0, M)) (fun i s => d_fr M s.2 ∧ (∀ j : Nat, (j : Int) < i → ∀ o, l_heir (w_l (w_of M w) j) (M 4425 0) (M 4425) (s_dpt M d) = some o → ∀ q ∈ o, q.2.2 ≤ 1000000) ∧ (s.1 = 0 → ∀ j : Nat, (j : Int) < i → ∀ o, l_heir (w_l (w_of M w) j) (M 4425 0) (M 4425) (s_dpt M d) = some o → o.length ≤ 8) ∧ (s.1 ≠ 0 → d_full (w_of M w) (M 4425 0) (M 4425) (s_dpt M d))) hz.1 ⟨fun _ _ _ _ _ => rfl, fun j hj => by omega, fun _ j hj => by omega, fun z => absurd rfl z⟩ ?_ ?_
    · intro d2 ⟨x2, N⟩ ⟨i1, i2, i3, i4⟩
      dsimp only at i1 i3 i4 ⊢
      obtain ⟨⟨n1, n2⟩, ⟨n3, n4, n5⟩, n6⟩ := drf N i1
      have nz : N (w + 24) = M (w + 24) := congrArg (fun S : w_S => S.1) n2
      have nf : ¬ d_fine (w_of M w) (M 4425 0) (M 4425) (s_dpt M d) := fun ⟨j, j1, o, j2, q, j3, j4⟩ => by have := i2 j j1 o j2 q j3; omega
      unfold WX0_die_43 VX0_die_43
      rw [n3.1, nz]
      refine ⟨by omega, fun _ => ⟨fun e0 => ?_, fun ne => q7 nf (i4 ne) N n1 n2 n6⟩, fun z => absurd z (Int.lt_irrefl _)⟩
      have nfl : ¬ d_full (w_of M w) (M 4425 0) (M 4425) (s_dpt M d) := fun ⟨j, j1, o, j2, j3⟩ => by have := i3 e0 j j1 o j2; omega
      show ∃ j, WX0_die_115 Q j (M 4425 0) 0 N
      refine s_up (σ := e_M) (P := fun dd i L => WX0_die_115 Q dd (M 4425 0) i L) (n := M (w + 24) 0) (i0 := 0) (s := N) (fun i L => w_ok L w ∧ w_of L w = w_hs (w_of M w) (M 4425 0) (M 4425) (s_dpt M d) i.toNat ∧ e_fr M L w) hz.1 ⟨n1, by rw [n2]; exact w_hs_0.symm, e_fr_d i1⟩ ?_ ?_
      · intro d3 L ⟨l1, l2, l3⟩
        obtain ⟨l4, l5, l6⟩ := e_fr_dd hw cx hd l3
        obtain ⟨l7, -⟩ := s_dd_congr l6
        have lz : L (w + 24) = M (w + 24) := congrArg (fun S : w_S => S.1) l2
        have fin : ∀ heir, heir = (if 0 < M d 15 then M 4425 1 else 0) → WX0_die_180 Q (M 4425 0) heir (M 4425 0) L := by
          intro heir eh
          unfold WX0_die_180 VX0_die_180
          refine k_endRights l1 hw l4 (fun A a1 a2 a3 => ?_)
          have ac := e_fr_dd hw l4 hd (e_fr_w a3)
          have az : A (w + 24) = M (w + 24) := (congrArg (fun S : w_S => S.1) a2).trans lz
          rw [ac.1.1]
          refine k_at a1 (by omega) h0.1 (by rw [az]; exact h0.2) ⟨by omega, fun B e => ?_⟩
          have hin := w_in (s := 1) (i := (M 4425 0).toNat) a1 (by omega) (by rw [az]; omega)
          rw [show (1 : Int).toNat = 1 from rfl] at e
          obtain ⟨u1, u2, u3⟩ := k_put a1 hin (k := 2) (v := 1) (by omega) (by omega)
          rw [e]
          refine q0 nf nfl _ u1 ?_ (e_fr_a (e_fr_trans l3 (e_fr_trans (e_fr_w a3) (e_fr_w u3))))
          rw [u2, a2, l2, eh]
        unfold WX0_die_115 VX0_die_115
        rw [l4.1, l4.2.1, lz, l5, l7]
        refine ⟨by omega, fun _ => ⟨fun z => fin 0 (by rw [if_neg (by omega)]), fun p => ⟨by omega, fin _ (by rw [if_pos p]; rfl)⟩⟩, fun z => absurd z (Int.lt_irrefl _)⟩
      · intro d3 i L k1 k2 ⟨l1, l2, l3⟩ ih
        obtain ⟨l4, l5, l6⟩ := e_fr_dd hw cx hd l3
        obtain ⟨l7, l8, -, -, l9⟩ := s_dd_congr l6
        have lz : L (w + 24) = M (w + 24) := congrArg (fun S : w_S => S.1) l2
        have hi80 : i.toNat < 80 := by omega
        have ll : w_l (w_of L w) i.toNat = w_l (w_of M w) i.toNat := by rw [l2]; exact w_hs_at
        have ob := (hr.1 i.toNat (by show (i.toNat : Int) < M (w + 24) 0; omega)).2.2.2
        have go : ∀ G, w_ok G w → w_of G w = w_hs (w_of M w) (M 4425 0) (M 4425) (s_dpt M d) (i.toNat + 1) → e_fr M G w → WX0_die_152 (WX0_die_115 Q d3) Q (M 4425 0) i G := by
          intro G g1 g2 g3
          show WX0_die_115 Q d3 (M 4425 0) (e_w32 (i + 1)) G
          rw [s_w (by omega) (by omega)]
          exact ih G ⟨g1, by rw [g2, show (i + 1).toNat = i.toNat + 1 by omega], g3⟩
        unfold WX0_die_115 VX0_die_115
        rw [l4.1, l4.2.1, lz, show (0 : Int).toNat = 0 from rfl]
        refine ⟨by omega, fun z => by omega, fun _ => k_heirs2 l1 hw l4 hd (l9 hdo) (by rw [l8]; exact hpk) (by rw [lz]; exact ⟨k1, k2⟩) (by rw [ll]; exact ob) (by rw [l5, l7]; exact hnd) (fun e => ⟨fun _ => ?_, fun z => absurd rfl z⟩) (fun o e G g1 g2 g3 => ⟨fun z => by omega, fun _ => ?_⟩)⟩
        · rw [ll, l5, l8] at e
          exact go L l1 (by rw [l2]; exact (w_hs_none e).symm) l3
        · rw [ll, l5, l8] at e
          obtain ⟨g4, g5⟩ := d_fr_w l1 hw g3
          have gz : G (w + 24) = M (w + 24) := (congrArg (fun S : w_S => S.1) g5).trans lz
          obtain ⟨g6, -⟩ := e_fr_dd hw l4 hd (e_fr_d (w := w) g3)
          rw [g6.1]
          have ha : w_al w i.toNat = w + 29 + 9 * i.toNat := rfl
          refine k_lot g4 k1 (by rw [gz]; exact k2) (c_copyOwners (by omega) g2 (fun H h1 h2 h3 h4 => ?_))
          obtain ⟨u1, u2, u3⟩ := k_ows g4 hi80 h1 h2 h3 h4
          refine go H u1 ?_ (e_fr_trans l3 (e_fr_trans (e_fr_d g3) (e_fr_w u3)))
          rw [u2, g5, l2, g1]
          exact (w_hs_some e).symm
    · intro d2 i ⟨x2, N⟩ k1 k2 ⟨i1, i2, i3, i4⟩ ih
      dsimp only at i1 i3 i4 ⊢
      obtain ⟨⟨n1, n2⟩, ⟨n3, n4, n5⟩, n6⟩ := drf N i1
      obtain ⟨n7, n8, -, -, n9⟩ := s_dd_congr n5
      have nz : N (w + 24) = M (w + 24) := congrArg (fun S : w_S => S.1) n2
      have ob := (hr.1 i.toNat (by show (i.toNat : Int) < M (w + 24) 0; omega)).2.2.2
      have go : ∀ v G, d_fr M G → (∀ o, l_heir (w_l (w_of M w) i.toNat) (M 4425 0) (M 4425) (s_dpt M d) = some o → (∀ q ∈ o, q.2.2 ≤ 1000000) ∧ (v = 0 → x2 = 0 ∧ o.length ≤ 8)) → (l_heir (w_l (w_of M w) i.toNat) (M 4425 0) (M 4425) (s_dpt M d) = none → v = x2) → (v ≠ 0 → d_full (w_of M w) (M 4425 0) (M 4425) (s_dpt M d)) → WX0_die_43 Q d2 (M 4425 0) v (e_w32 (i + 1)) G := by
        intro v G g1 g2 g3 g4
        rw [s_w (by omega) (by omega)]
        refine ih (v, G) ⟨g1, fun j hj o ho => ?_, fun e j hj o ho => ?_, g4⟩
        · by_cases c : (j : Int) = i
          · rw [show j = i.toNat by omega] at ho
            exact (g2 o ho).1
          · exact i2 j (by omega) o ho
        · by_cases c : (j : Int) = i
          · rw [show j = i.toNat by omega] at ho
            exact ((g2 o ho).2 e).2
          · refine i3 ?_ j (by omega) o ho
            cases hh : l_heir (w_l (w_of M w) i.toNat) (M 4425 0) (M 4425) (s_dpt M d) with
            | none => rw [← g3 hh]; exact e
            | some o2 => exact ((g2 o2 hh).2 e).1
      unfold WX0_die_43 VX0_die_43
      rw [n3.1, nz, show (0 : Int).toNat = 0 from rfl]
      refine ⟨by omega, fun z => by omega, fun _ => k_heirs2 n1 hw n3 hd (n9 hdo) (by rw [n8]; exact hpk) (by rw [nz]; exact ⟨k1, k2⟩) (by rw [n2]; exact ob) (by rw [n4, n7]; exact hnd) (fun e => ⟨fun _ => ?_, fun z => absurd rfl z⟩) (fun o e G g1 g2 g3 => ⟨fun z => by omega, fun _ => ?_⟩)⟩
      · rw [n2, n4, n8] at e
        exact go x2 N i1 (fun o ho => by rw [e] at ho; cases ho) (fun _ => rfl) i4
      · rw [n2, n4, n8] at e
        have fG : d_fr M G := fun c c0 c6 c7 c8 => by rw [g3 c c0 c6 c7 c8, i1 c c0 c6 c7 c8]
        obtain ⟨⟨m1, m2⟩, -, m6⟩ := drf G fG
        have gl := s_own_len g2
        rw [g1] at gl
        have nx : (i.toNat : Int) < w_z (w_of M w) 0 := by show (i.toNat : Int) < M (w + 24) 0; omega
        refine c_isTooFine g2 (fun f => ⟨fun z => by omega, fun _ => ?_⟩) (fun f => ⟨fun _ => ⟨fun ne => ?_, fun e0 => ⟨fun le => ?_, fun gt => ?_⟩⟩, fun z => absurd rfl z⟩)
        · rw [g1] at f
          exact q6f ⟨i.toNat, nx, o, e, f⟩ G m1 m2 m6
        · rw [g1] at f
          exact go 1 G fG (fun o2 h2 => ⟨by rw [e] at h2; rw [← Option.some.inj h2]; exact f, fun z => by omega⟩) (fun z => by rw [e] at z; cases z) (fun _ => i4 ne)
        · rw [g1] at f
          exact go 0 G fG (fun o2 h2 => ⟨by rw [e] at h2; rw [← Option.some.inj h2]; exact f, fun _ => ⟨e0, by rw [e] at h2; rw [← Option.some.inj h2]; omega⟩⟩) (fun z => by rw [e] at z; cases z) (fun z => absurd rfl z)
        · rw [g1] at f
          exact go 1 G fG (fun o2 h2 => ⟨by rw [e] at h2; rw [← Option.some.inj h2]; exact f, fun z => by omega⟩) (fun z => by rw [e] at z; cases z) (fun _ => ⟨i.toNat, nx, o, e, by omega⟩)
  exact ⟨by omega, fun z => main (fun p => by omega), fun p => k_mixed cx (by omega) (by have := ht p; omega) (fun m => ⟨fun _ => a_q_no h (q6 p (Or.inl m)), fun z => by omega⟩) (fun m => ⟨fun z => absurd rfl z, fun _ => c_isWhole hdo hpk (fun e => ⟨fun _ => main (fun _ => ⟨m, e⟩), fun z => by omega⟩) (fun e => ⟨fun z => absurd rfl z, fun _ => a_q_no h (q6 p (Or.inr e))⟩)⟩)⟩
