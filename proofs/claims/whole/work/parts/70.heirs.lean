/-! Acts: the heirs of one LOT, drafted -/
theorem o_sub_all {o : s_Own} {i : Nat} {q : Int × Int × Int} (h : o[i]? = some q) : o_sub o i q.2.1 q.2.2 = o.eraseIdx i := by
  unfold o_sub
  rw [h]
  dsimp only
  have : (s_red (q.2.1 * q.2.2 - q.2.1 * q.2.2) (q.2.2 * q.2.2)).1 = 0 := by
    unfold s_red
    dsimp only
    rw [Int.sub_self, Int.zero_ediv]
  rw [if_pos this]
def o_heirs (o : s_Own) (q : Int × Int × Int) (dead : Int) (r : Nat → Int) (ps : List (Int × Int)) : s_Own := o_pts r q.2.1 q.2.2 1 ps (if ps.length = 0 then o_give (o.eraseIdx (o_fd o dead).toNat) 0 q.2.1 q.2.2 else o.eraseIdx (o_fd o dead).toNat)
def d_fr (M M' : e_M) : Prop := ∀ c, c ≠ 4443 → c ≠ 4449 → c ≠ 4450 → c ≠ 4451 → M' c = M c
theorem k_heirs {M : e_M} {w d : Nat} {at_ l dead : Int} {Q : Int → e_M → Prop} (h : w_ok M w) (hw : a_w w) (cx : a_cx M w d at_) (hd : a_d w d) (hdo : s_dok M d) (hpk : d_pok (s_dpt M d)) (hl : 0 ≤ l ∧ l < M (w + 24) 0) (hob : s_ob 1000000 (w_l (w_of M w) l.toNat).2.2.2) (hnd : ∀ i j : Nat, 1 ≤ i → i < j → (j : Int) ≤ M d 15 → M 4425 i ≠ M 4425 j)
    (q0 : ¬ ((w_l (w_of M w) l.toNat).1 1 = 0 ∧ 0 ≤ o_fd (w_l (w_of M w) l.toNat).2.2.2 dead) → Q 0 M)
    (q1 : (w_l (w_of M w) l.toNat).1 1 = 0 → ∀ q, 0 ≤ o_fd (w_l (w_of M w) l.toNat).2.2.2 dead → (w_l (w_of M w) l.toNat).2.2.2[(o_fd (w_l (w_of M w) l.toNat).2.2.2 dead).toNat]? = some q → ∀ M', s_own M' 4443 = o_heirs (w_l (w_of M w) l.toNat).2.2.2 q dead (M 4425) (s_dpt M d) → s_ook M' 4443 → d_fr M M' → Q 1 M') : WX0_draftHeirs l dead M Q := by
  unfold a_w at hw
  unfold a_d at hd
  have hi : l.toNat < 80 := w_in0 h (by omega)
  rw [w_l_k hi (by omega), w_l_e hi] at q0 q1
  rw [w_l_e hi] at hob
  change s_ob 1000000 (s_own M (w_al w l.toNat)) at hob
  have hk := (h.2.2.1 _ hi).2.2
  have hlen := s_own_len hk
  have hlt := o_fd_lt (l := s_own M (w_al w l.toNat)) (p := dead)
  obtain ⟨g0, g14⟩ := id hk
  have ha : w_al w l.toNat = w + 29 + 9 * l.toNat := rfl
  obtain ⟨p0, p6⟩ := hdo.2.1
  have hpl := s_dpt_len hdo
  unfold WX0_draftHeirs VX0_draftHeirs
  rw [cx.1]
  refine k_lot h hl.1 hl.2 (c_placeOf hk ⟨fun ne => q0 (fun z => ne z.1), fun e0 => ⟨fun ge => c_copyOwners (by omega) hk (fun A a1 a2 a3 a4 => ?_), fun lt => q0 (fun z => absurd z.2 (Int.not_le.mpr lt))⟩⟩)
  have fA : d_fr M A := fun c c0 c6 c7 c8 => a4 c c0 c6 c7 c8
  have hq := s_own_at (M := M) (a := w_al w l.toNat) (i := (o_fd (s_own M (w_al w l.toNat)) dead).toNat) (by omega)
  have qq := q1 e0 _ ge hq
  have hbd := hob _ (List.mem_of_getElem? hq)
  dsimp only at hbd
  rw [fA (w_al w l.toNat + 7) (by omega) (by omega) (by omega) (by omega), fA (w_al w l.toNat + 8) (by omega) (by omega) (by omega) (by omega)]
  unfold o_heirs at qq
  dsimp only at qq
  generalize hT : M (w_al w l.toNat + 7) (o_fd (s_own M (w_al w l.toNat)) dead).toNat = t at *
  generalize hB : M (w_al w l.toNat + 8) (o_fd (s_own M (w_al w l.toNat)) dead).toNat = b at *
  have rr : 0 ≤ o_fd (s_own M (w_al w l.toNat)) dead ∧ o_fd (s_own M (w_al w l.toNat)) dead < 14 := by omega
  refine ⟨rr, rr, c_takeOff (B := 1000000) (C := 1000000) a2 (by rw [a1]; exact hob) hbd.1 (by omega) hbd.2.2.1 hbd.2.2.2 (by decide) (fun no => absurd ?_ no) (fun _ E e1 e2 e3 e4 => ?_)⟩
  · unfold o_has
    rw [a1]
    exact ⟨_, hq, ge, by dsimp only; omega⟩
  have fE : d_fr M E := fun c c0 c6 c7 c8 => by rw [e4 c c0 c6 c7 c8, fA c c0 c6 c7 c8]
  have eo : s_own E 4443 = (s_own M (w_al w l.toNat)).eraseIdx (o_fd (s_own M (w_al w l.toNat)) dead).toNat := by
    rw [e1, a1]
    exact o_sub_all hq
  have ob1 : s_ob 1000000 (s_own E 4443) := by
    rw [eo]
    exact fun q hq => hob q (List.mem_of_mem_eraseIdx hq)
  rw [fE 4423 (by omega) (by omega) (by omega) (by omega), cx.2.1, fE d (by omega) (by omega) (by omega) (by omega)]
  -- the PARTS
  have loop : ∀ (o0 : s_Own) (N : e_M), s_own N 4443 = o0 → s_ook N 4443 → d_fr M N → (0 < M d 15 → s_ob 1000000 o0) → (∀ M', s_own M' 4443 = o_pts (M 4425) t b 1 (s_dpt M d) o0 → s_ook M' 4443 → d_fr M M' → Q 1 M') → ∃ j, WX0_draftHeirs_96 Q j (w_al w l.toNat) (o_fd (s_own M (w_al w l.toNat)) dead) 0 N := by
    intro o0 N n1 n2 n3 n4 fin
    refine s_up (P := fun dd i L => WX0_draftHeirs_96 Q dd (w_al w l.toNat) (o_fd (s_own M (w_al w l.toNat)) dead) i L) (n := M d 15) (fun i L => s_own L 4443 = o_pts (M 4425) t b 1 ((s_dpt M d).take i.toNat) o0 ∧ s_ook L 4443 ∧ d_fr M L) p0 ⟨by rw [n1]; rfl, n2, n3⟩ ?_ ?_
    · intro d2 L ⟨l1, l2, l3⟩
      unfold WX0_draftHeirs_96 VX0_draftHeirs_96
      rw [l3 4423 (by omega) (by omega) (by omega) (by omega), cx.2.1, l3 d (by omega) (by omega) (by omega) (by omega)]
      refine ⟨fun _ => fin L ?_ l2 l3, fun z => by omega⟩
      rw [l1, List.take_of_length_le (by omega)]
    · intro d2 i L k1 k2 ⟨l1, l2, l3⟩ ih
      have hat := s_dpt_at (M := M) (d := d) (i := i.toNat) (by omega)
      have hp := hpk _ (List.mem_of_getElem? hat)
      dsimp only at hp
      unfold WX0_draftHeirs_96 VX0_draftHeirs_96
      rw [l3 4423 (by omega) (by omega) (by omega) (by omega), cx.2.1, l3 d (by omega) (by omega) (by omega) (by omega), l3 4425 (by omega) (by omega) (by omega) (by omega), l3 (w_al w l.toNat + 7) (by omega) (by omega) (by omega) (by omega), l3 (w_al w l.toNat + 8) (by omega) (by omega) (by omega) (by omega), l3 (d + 3) (by omega) (by omega) (by omega) (by omega), l3 (d + 4) (by omega) (by omega) (by omega) (by omega), hT, hB, s_w (x := i + 1) (by omega) (by omega)]
      have m1 := s_mulB hbd.1 (show t ≤ 1000000 by omega) (show 0 ≤ M (d + 3) i.toNat by omega) (show M (d + 3) i.toNat ≤ 1000 by omega)
      have m2 := s_mulB (show 0 ≤ b by omega) hbd.2.2.2 (show 0 ≤ M (d + 4) i.toNat by omega) (show M (d + 4) i.toNat ≤ 1000 by omega)
      have m3 : 0 < b * M (d + 4) i.toNat := Int.mul_pos (by omega) (by omega)
      rw [s_wj (x := t * M (d + 3) i.toNat) (by omega) (by omega), s_wj (x := b * M (d + 4) i.toNat) (by omega) (by omega)]
      refine ⟨fun z => by omega, fun _ => ⟨by omega, rr, by omega, rr, by omega, c_giveP (B := 1000000) (C := 1000000000) l2 (by decide) (fun q hq hqp => ?_) m1.1 (by omega) m3 (by omega) (by decide) (fun G g1 g2 g3 g4 => ?_)⟩⟩
      · rw [l1] at hq
        refine n4 (by omega) q (o_pts_mem hq (fun j j1 j2 => ?_))
        rw [List.length_take] at j2
        rw [hqp]
        have := hnd j (i + 1).toNat j1 (by omega) (by omega)
        exact fun z => this z.symm
      · refine ih G ⟨?_, g2, fun c c0 c6 c7 c8 => by rw [g4 c c0 c6 c7 c8, l3 c c0 c6 c7 c8]⟩
        have hlt2 : (List.take i.toNat (s_dpt M d)).length = i.toNat := by rw [List.length_take]; omega
        rw [g1, l1, show (i + 1).toNat = i.toNat + 1 by omega, List.take_add_one, hat]
        show _ = o_pts (M 4425) t b 1 (List.take i.toNat (s_dpt M d) ++ [_]) o0
        rw [o_pts_snoc, hlt2, show 1 + i.toNat = i.toNat + 1 by omega]
  refine ⟨fun ne => ?_, fun e15 => ⟨rr, rr, ?_⟩⟩
  · exact loop _ E rfl e2 fE (fun _ => ob1) (fun M' x1 x2 x3 => qq M' (by rw [x1, if_neg (by omega), eo]; rfl) x2 x3)
  · rw [fE (w_al w l.toNat + 7) (by omega) (by omega) (by omega) (by omega), fE (w_al w l.toNat + 8) (by omega) (by omega) (by omega) (by omega), hT, hB]
    refine c_give (B := 1000000) (C := 1000000) e2 (by decide) ob1 hbd.1 (by omega) hbd.2.2.1 hbd.2.2.2 (by decide) (fun G g1 g2 g3 g4 => ?_)
    exact loop _ G rfl g2 (fun c c0 c6 c7 c8 => by rw [g4 c c0 c6 c7 c8, fE c c0 c6 c7 c8]) (fun z => by omega) (fun M' x1 x2 x3 => qq M' (by rw [x1, if_pos (by omega), g1, eo]; rfl) x2 x3)
