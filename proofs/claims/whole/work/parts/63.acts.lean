/-! Acts: charge -/
def c_dup (r : Nat → Int) (last : Int) : Prop := ∃ i j : Nat, 1 ≤ j ∧ j < i ∧ (i : Int) < last ∧ r i = r j
def c_abl (S : w_S) (r : Nat → Int) (last : Int) : Prop := ∀ i : Nat, 1 ≤ i → (i : Int) < last → w_oab S (r i).toNat
def c_bar (S : w_S) (r : Nat → Int) (last : Int) : Prop := ∃ i : Nat, 1 ≤ i ∧ (i : Int) < last ∧ w_bar S (r i) (-1)
def c_ful (S : w_S) (r : Nat → Int) (last : Int) : Prop := 40 ≤ w_z S 2 ∨ ∃ i : Nat, 1 ≤ i ∧ (i : Int) < last ∧ 8 ≤ (w_l S (r i).toNat).2.2.1.length
def w_chst (J : Nat) (c : Int) (S : w_S) (l : Int) : w_S := w_chg (w_lts S J (r_add (S.2.2.1 J).2.1 l)) l.toNat (r_add (S.2.1 l.toNat).2.2.1 c)
theorem w_chst_z {J : Nat} {c : Int} : ∀ {ls : List Int} {S : w_S}, (ls.foldl (w_chst J c) S).1 = S.1
  | [], S => rfl
  | l :: ls, S => by
    show (ls.foldl (w_chst J c) (w_chst J c S l)).1 = S.1
    rw [w_chst_z]; rfl
def w_charge (S : w_S) (called d at_ who num : Int) (ls : List Int) : w_S := ls.foldl (w_chst (w_F 2 + (S.1 2).toNat) (S.1 2)) (w_addT S 2 (s_fu (s_fu (w_new S 2 called d at_).1 5 who) 6 num, [], []))
def c_A (S : w_S) (r : Nat → Int) (i ab : Int) : Prop := (ab ≠ 0 → ∀ j : Nat, 1 ≤ j → (j : Int) < i → w_oab S (r j).toNat) ∧ (ab = 0 → ∃ j : Nat, 1 ≤ j ∧ (j : Int) < i ∧ ¬ w_oab S (r j).toNat)
def c_B (S : w_S) (r : Nat → Int) (i ba : Int) : Prop := (ba = 0 → ∀ j : Nat, 1 ≤ j → (j : Int) < i → ¬ w_bar S (r j) (-1)) ∧ (ba ≠ 0 → ∃ j : Nat, 1 ≤ j ∧ (j : Int) < i ∧ w_bar S (r j) (-1))
def c_C (S : w_S) (r : Nat → Int) (i fu : Int) : Prop := (fu = 0 → w_z S 2 < 40 ∧ ∀ j : Nat, 1 ≤ j → (j : Int) < i → (w_l S (r j).toNat).2.2.1.length < 8) ∧ (fu ≠ 0 → 40 ≤ w_z S 2 ∨ ∃ j : Nat, 1 ≤ j ∧ (j : Int) < i ∧ 8 ≤ (w_l S (r j).toNat).2.2.1.length)
def c_N (r : Nat → Int) (i : Int) : Prop := ∀ i2 j : Nat, 1 ≤ j → j < i2 → (i2 : Int) < i → r i2 ≠ r j
theorem k_charge {M : e_M} {w d : Nat} {at_ last : Int} {Q : Int → e_M → Prop} (h : w_ok M w) (hr : w_rg (w_of M w)) (hw : a_w w) (cx : a_cx M w d at_) (hd : a_d w d) (hday : M d 4 = M w 11) (hlast : M d 7 = last + 1) (hl2 : 2 ≤ last ∧ last ≤ 7) (hrl : ∀ i : Nat, 1 ≤ i → (i : Int) < last → 0 ≤ M 4425 i ∧ M 4425 i < M (w + 24) 0)
    (q1 : c_dup (M 4425) last → a_q M w Q 1 (w_of M w))
    (q2 : ¬ c_dup (M 4425) last → ¬ c_abl (w_of M w) (M 4425) last → a_q M w Q 2 (w_of M w))
    (q4 : ¬ c_dup (M 4425) last → c_abl (w_of M w) (M 4425) last → c_bar (w_of M w) (M 4425) last → a_q M w Q 4 (w_of M w))
    (q6 : ¬ c_dup (M 4425) last → c_abl (w_of M w) (M 4425) last → ¬ c_bar (w_of M w) (M 4425) last → M d 9 = 0 → a_q M w Q 6 (w_of M w))
    (q7 : ¬ c_dup (M 4425) last → c_abl (w_of M w) (M 4425) last → ¬ c_bar (w_of M w) (M 4425) last → M d 9 ≠ 0 → c_ful (w_of M w) (M 4425) last → a_q M w Q 7 (w_of M w))
    (q0 : ¬ c_dup (M 4425) last → c_abl (w_of M w) (M 4425) last → ¬ c_bar (w_of M w) (M 4425) last → M d 9 ≠ 0 → ¬ c_ful (w_of M w) (M 4425) last → a_q M w Q 0 (w_charge (w_of M w) (M (d + 1) 0) d at_ (M 4425 last.toNat) (M d 9) (s_ar (fun k => M 4425 (k + 1)) (last - 1)))) : WX0_charge M Q := by
  have hw' := hw
  unfold a_w at hw'
  have hd' := hd
  unfold a_d at hd'
  have hz := w_zb h (show 2 < 8 by omega)
  have hm : w_mx 2 = 40 := rfl
  unfold WX0_charge VX0_charge
  rw [cx.1, cx.2.1, hlast]
  intro y1 ey
  rw [s_w (by omega) (by omega)] at ey
  replace ey : y1 = last := by omega
  subst ey
  have main : ∀ f0 : Int, (f0 = 0 → M (w + 24) 2 < 40) → (f0 ≠ 0 → 40 ≤ M (w + 24) 2) → ∃ j, WX0_charge_27 Q j y1 1 0 f0 1 M := by
    intro f0 hf0 hf1
    refine s_up (σ := (Int × Int × Int) × e_M) (P := fun d i s => WX0_charge_27 Q d y1 s.1.1 s.1.2.1 s.1.2.2 i s.2) (n := y1) (s := ((1, 0, f0), M)) (fun i s => s.2 = M ∧ c_A (w_of M w) (M 4425) i s.1.1 ∧ c_B (w_of M w) (M 4425) i s.1.2.1 ∧ c_C (w_of M w) (M 4425) i s.1.2.2 ∧ c_N (M 4425) i) (by omega) ⟨rfl, ⟨fun _ j h1 h2 => by omega, fun z => absurd (show (1 : Int) = 0 from z) (by decide)⟩, ⟨fun _ j h1 h2 => by omega, fun z => absurd rfl z⟩, ⟨fun z => ⟨hf0 z, fun j h1 h2 => by omega⟩, fun z => Or.inl (hf1 z)⟩, fun i2 j h1 h2 h3 => by omega⟩ ?_ ?_
    · intro d2 ⟨⟨ab, ba, fu⟩, N⟩ ⟨e, iA, iB, iC, iN⟩
      dsimp only at e iA iB iC ⊢
      subst e
      have nd : ¬ c_dup (N 4425) y1 := fun ⟨i, j, d1, d2, d3, d4⟩ => iN i j d1 d2 d3 d4
      unfold WX0_charge_27 VX0_charge_27
      rw [cx.1, cx.2.1]
      refine ⟨fun _ => ⟨fun a => ⟨fun b => ⟨fun nn => ⟨fun f => ?_, fun f => ⟨fun _ => ⟨by omega, fun y2 e2 => ?_⟩, fun z => by omega⟩⟩, fun z => ?_⟩, fun b => ?_⟩, fun a => ?_⟩, fun z => by omega⟩
      · have nb : ¬ c_bar (w_of N w) (N 4425) y1 := fun ⟨j, j1, j2, j3⟩ => iB.1 b j j1 j2 j3
        exact a_q_no h (q7 nd (iA.1 a) nb nn (iC.2 f))
      · have nb : ¬ c_bar (w_of N w) (N 4425) y1 := fun ⟨j, j1, j2, j3⟩ => iB.1 b j j1 j2 j3
        have nf : ¬ c_ful (w_of N w) (N 4425) y1 := by
          rintro (z | ⟨j, j1, j2, j3⟩)
          · exact absurd z (Int.not_le.mpr (iC.1 f).1)
          · have := (iC.1 f).2 j j1 j2
            omega
        have qq := q0 nd (iA.1 a) nb nn nf
        have hs2 : N (w + 24) 2 < 40 := (iC.1 f).1
        rw [show (2 : Int).toNat = 2 from rfl] at e2
        refine k_make h hw cx hd hday (by omega) (by show N (w + 24) 2 < (40 : Int); exact hs2) (fun A a1 a2 a3 => ⟨by omega, fun M4 e4 M5 e5 => ?_⟩)
        rw [show (2 : Int).toNat = 2 from rfl] at a2 e4 e5 ⊢
        have hin : w_F 2 + (N (w + 24) 2).toNat < 290 := by have : w_F 2 = 40 := rfl; omega
        have hJ' : w_F 2 + (N (w + 24) 2).toNat = w_F 2 + ((w_of N w).1 2).toNat := rfl
        generalize hJ : w_F 2 + (N (w + 24) 2).toNat = J at *
        rw [a3 4425 (by omega) (by omega)] at e4
        obtain ⟨u1, u2, u3⟩ := k_put a1 hin (k := 5) (v := N 4425 y1.toNat) (by omega) (by omega)
        rw [← e4] at u1 u2 u3
        have f4 := w_fr_trans a3 u3
        rw [f4 4423 (by omega) (by omega), cx.2.1, f4 d (by omega) (by omega)] at e5
        obtain ⟨v1, v2, v3⟩ := k_put u1 hin (k := 6) (v := N d 9) (by omega) (by omega)
        rw [← e5] at v1 v2 v3
        have f5 := w_fr_trans f4 v3
        have s5 : w_of M5 w = w_addT (w_of N w) 2 (s_fu (s_fu (w_new (w_of N w) 2 (N (d + 1) 0) d at_).1 5 (N 4425 y1.toNat)) 6 (N d 9), [], []) := by
          rw [v2, u2, a2, hJ', w_put_addT, w_put_addT]; rfl
        unfold w_charge at qq
        rw [← s5, ← hJ'] at qq
        have hy2 : (w_of N w).1 2 = y2 := e2.symm
        rw [hy2] at qq
        have z5 : M5 (w + 24) 0 = N (w + 24) 0 := by
          have := congrFun (congrArg (fun S : w_S => S.1) s5) 0
          exact this
        refine s_up (P := fun d i L => WX0_charge_242 Q d y1 y2 (w_at w J) i L) (n := y1) (fun i L => w_ok L w ∧ w_of L w = ((s_ar (fun k => N 4425 (k + 1)) (i - 1)).foldl (w_chst J y2) (w_of M5 w)) ∧ w_fr N L w) (by omega) ⟨v1, rfl, f5⟩ ?_ ?_
        · intro d3 L ⟨l1, l2, l3⟩
          exact ⟨fun _ => qq L l1 l2 (a_fr_of l3), fun z => by omega⟩
        · intro d3 i L k1 k2 ⟨l1, l2, l3⟩ ih2
          have ri : 0 ≤ i ∧ i < 8 := by omega
          have hri := hrl i.toNat (by omega) (by omega)
          unfold WX0_charge_242 VX0_charge_242
          rw [(w_ref l1 hin).1, l3 4425 (by omega) (by omega)]
          refine ⟨fun z => by omega, fun _ => ⟨ri, c_radd (l1.2.2.2 J hin).1.1 (fun B b1 b2 b3 b4 => ?_)⟩⟩
          obtain ⟨x1, x2, x3⟩ := k_lts l1 hin b1 b2 b4
          have fB := w_fr_trans l3 x3
          rw [fB 4425 (by omega) (by omega), (a_cx_congr cx (fB 4423 (by omega) (by omega))).1]
          have zB : B (w + 24) 0 = N (w + 24) 0 := by
            have t1 := congrFun (congrArg (fun S : w_S => S.1) x2) 0
            have t2 := congrFun (congrArg (fun S : w_S => S.1) l2) 0
            rw [w_chst_z] at t2
            have t1' : B (w + 24) 0 = L (w + 24) 0 := t1
            have t2' : L (w + 24) 0 = M5 (w + 24) 0 := t2
            rw [t1', t2', z5]
          have hi80 : (N 4425 i.toNat).toNat < 80 := w_in0 h (by omega)
          refine ⟨ri, k_lot x1 hri.1 (by rw [zB]; exact hri.2) (c_radd (x1.2.2.1 _ hi80).2.1 (fun C c1 c2 c3 c4 => ?_))⟩
          obtain ⟨y1', y2', y3'⟩ := k_chg x1 hi80 c1 c2 c4
          rw [s_w (by omega) (by omega)]
          refine ih2 C ⟨y1', ?_, w_fr_trans fB y3'⟩
          rw [y2', show (i + 1 - 1) = (i - 1) + 1 by omega, s_ar_succ (by omega), List.foldl_append, ← l2]
          show _ = w_chst J y2 (w_of L w) (N 4425 ((i - 1).toNat + 1))
          rw [show (i - 1).toNat + 1 = i.toNat by omega]
          unfold w_chst
          rw [x2, w_of_t hin]
          have eB : (w_of B w).2.1 (N 4425 i.toNat).toNat = (w_of L w).2.1 (N 4425 i.toNat).toNat := by rw [x2]; rfl
          rw [w_of_l hi80] at eB
          rw [← eB]
          rfl
      · have nb : ¬ c_bar (w_of N w) (N 4425) y1 := fun ⟨j, j1, j2, j3⟩ => iB.1 b j j1 j2 j3
        exact a_q_no h (q6 nd (iA.1 a) nb z)
      · exact a_q_no h (q4 nd (iA.1 a) (iB.2 b))
      · exact a_q_no h (q2 nd (fun z => by
          obtain ⟨j, j1, j2, j3⟩ := iA.2 a
          exact j3 (z j j1 j2)))
    · intro d2 i ⟨⟨ab, ba, fu⟩, N⟩ k1 k2 ⟨e, iA, iB, iC, iN⟩ ih
      dsimp only at e iA iB iC ⊢
      subst e
      have ri : 0 ≤ i ∧ i < 8 := by omega
      have hri := hrl i.toNat (by omega) (by omega)
      have hi80 : (N 4425 i.toNat).toNat < 80 := w_in0 h (by omega)
      have split : ∀ {p : Nat → Prop}, (∀ j : Nat, 1 ≤ j → (j : Int) < i → p j) → p i.toNat → ∀ j : Nat, 1 ≤ j → (j : Int) < i + 1 → p j := fun g1 g2 j j1 j2 => by
        by_cases c : (j : Int) = i
        · rw [show j = i.toNat by omega]; exact g2
        · exact g1 j j1 (by omega)
      refine ⟨fun z => by omega, fun _ => ?_⟩
      refine s_up (P := fun d j (_ : Unit) => WX0_charge_36 (WX0_charge_27 Q d2) Q d y1 ab ba fu i j N) (n := i) (i0 := 1) (s := ()) (fun k _ => ∀ j : Nat, 1 ≤ j → (j : Int) < k → N 4425 i.toNat ≠ N 4425 j) k1 (fun j j1 j2 => by omega) ?_ ?_
      · intro d3 _ hnd
        have iN' : c_N (N 4425) (i + 1) := fun i2 j j1 j2 j3 => by
          by_cases c : (i2 : Int) = i
          · rw [show i2 = i.toNat by omega]; exact hnd j j1 (by omega)
          · exact iN i2 j j1 j2 (by omega)
        have s152 : ∀ ab' ba' fu', c_A (w_of N w) (N 4425) (i + 1) ab' → c_B (w_of N w) (N 4425) (i + 1) ba' → c_C (w_of N w) (N 4425) (i + 1) fu' → WX0_charge_152 (WX0_charge_27 Q d2) Q y1 ab' ba' i fu' N := by
          intro ab' ba' fu' hA hB hC
          show WX0_charge_27 Q d2 y1 ab' ba' fu' (e_w32 (i + 1)) N
          rw [s_w (by omega) (by omega)]
          exact ih ((ab', ba', fu'), N) ⟨rfl, hA, hB, hC, iN'⟩
        have s116 : ∀ ab' ba', c_A (w_of N w) (N 4425) (i + 1) ab' → c_B (w_of N w) (N 4425) (i + 1) ba' → WX0_charge_116 (WX0_charge_27 Q d2) Q y1 ab' fu i ba' N := by
          intro ab' ba' hA hB
          unfold WX0_charge_116 VX0_charge_116
          rw [cx.1]
          refine ⟨fun ne => s152 ab' ba' 1 hA hB ⟨fun z => by omega, fun _ => ?_⟩, fun e0 => ⟨ri, k_lot h hri.1 hri.2 ?_⟩⟩
          · rcases iC.2 ne with z | ⟨j, j1, j2, j3⟩
            · exact Or.inl z
            · exact Or.inr ⟨j, j1, by omega, j3⟩
          · have hk := (h.2.2.1 _ hi80).2.1
            have hlen := s_row_len hk
            have el : (w_l (w_of N w) (N 4425 i.toNat).toNat).2.2.1 = s_row N (w_al w (N 4425 i.toNat).toNat + 4) := by rw [w_l_e hi80]; rfl
            refine ⟨fun lt => s152 ab' ba' 0 hA hB ⟨fun _ => ⟨(iC.1 e0).1, split (iC.1 e0).2 (by rw [el]; omega)⟩, fun z => absurd rfl z⟩, fun ge => s152 ab' ba' 1 hA hB ⟨fun z => by omega, fun _ => Or.inr ⟨i.toNat, by omega, by omega, by rw [el]; omega⟩⟩⟩
        have s91 : ∀ ab', c_A (w_of N w) (N 4425) (i + 1) ab' → WX0_charge_91 (WX0_charge_27 Q d2) Q y1 ba fu i ab' N := by
          intro ab' hA
          unfold WX0_charge_91 VX0_charge_91
          refine ⟨fun ne => s116 ab' 1 hA ⟨fun z => by omega, fun _ => ?_⟩, fun e0 => ⟨ri, k_barred h cx (fun b => ⟨fun z => by omega, fun _ => s116 ab' 1 hA ⟨fun z => by omega, fun _ => ⟨i.toNat, by omega, by omega, b⟩⟩⟩) (fun b => ⟨fun _ => s116 ab' 0 hA ⟨fun _ => split (iB.1 e0) b, fun z => absurd rfl z⟩, fun z => absurd rfl z⟩)⟩⟩
          obtain ⟨j, j1, j2, j3⟩ := iB.2 ne
          exact ⟨j, j1, by omega, j3⟩
        refine ⟨fun _ => ⟨fun e0 => s91 0 ⟨fun z => absurd rfl z, fun _ => ?_⟩, fun ne => ⟨ri, k_ownersAble h hr cx hri (fun a => ⟨fun z => by omega, fun _ => s91 1 ⟨fun _ => split (iA.1 ne) a, fun z => by omega⟩⟩) (fun a => ⟨fun _ => s91 0 ⟨fun z => absurd rfl z, fun _ => ⟨i.toNat, by omega, by omega, a⟩⟩, fun z => absurd rfl z⟩)⟩⟩, fun z => by omega⟩
        obtain ⟨j, j1, j2, j3⟩ := iA.2 e0
        exact ⟨j, j1, by omega, j3⟩
      · intro d3 j _ j1 j2 hnd ih2
        refine ⟨fun z => by omega, fun _ => ⟨ri, by omega, fun ne => ?_, fun e => a_q_no h (q1 ⟨i.toNat, j.toNat, by omega, by omega, by omega, e⟩)⟩⟩
        rw [s_w (by omega) (by omega)]
        refine ih2 () (fun k hk1 hk2 => ?_)
        by_cases c : (k : Int) = j
        · rw [show k = j.toNat by omega]; exact ne
        · exact hnd k hk1 (by omega)
  exact k_isFull (s := 2) (by omega) (fun f => main 1 (fun z => by omega) (fun _ => f)) (fun f => main 0 (fun _ => f) (fun z => absurd rfl z))
