/-! Acts: sell -/
def w_sale (S : w_S) (called d at_ : Int) (r : Nat → Int) (n T B : Int) : w_T := (s_fu (s_fu (s_fu (w_new S 7 called d at_).1 5 (r 1)) 12 T) 13 B, [r 0], s_ar (fun i => r (i + 2)) n)
theorem r_add_ar {f : Nat → Int} {n : Int} (h0 : 0 ≤ n) (h8 : n < 8) : r_add (s_ar f n) (f n.toNat) = s_ar f (n + 1) := by
  unfold r_add
  rw [r_ins_end (by rw [s_ar_len]; omega), s_ar_succ h0]
theorem k_recordSale {M : e_M} {w d : Nat} {at_ top bottom : Int} {Q : e_M → Prop} (h : w_ok M w) (hw : a_w w) (cx : a_cx M w d at_) (hd : a_d w d) (hday : M d 4 = M w 11) (hdo : s_dok M d) (h1 : M (w + 24) 7 < 60) (hq : ∀ M', w_ok M' w → w_of M' w = w_addT (w_of M w) 7 (w_sale (w_of M w) (M (d + 1) 0) d at_ (M 4425) (M d 15) top bottom) → w_fr M M' w → Q M') : WX0_recordSale top bottom M Q := by
  have hz := w_zb h (show 7 < 8 by omega)
  have hm : w_F 7 = 230 := rfl
  have hin : w_F 7 + (M (w + 24) 7).toNat < 290 := by omega
  have hw' := hw
  unfold a_w at hw'
  have hd' := hd
  unfold a_d at hd'
  obtain ⟨p0, p6⟩ := hdo.2.1
  have hJ' : w_F 7 + (M (w + 24) 7).toNat = w_F 7 + ((w_of M w).1 7).toNat := rfl
  unfold WX0_recordSale VX0_recordSale
  refine k_make (s := 7) h hw cx hd hday (by omega) h1 (fun N n1 n2 n3 => ⟨by omega, fun M3 e3 => ⟨by omega, ?_⟩⟩)
  rw [show (7 : Int).toNat = 7 from rfl] at n2 e3 ⊢
  generalize hJ : w_F 7 + (M (w + 24) 7).toNat = J at *
  obtain ⟨u1, u2, u3⟩ := k_put n1 hin (k := 5) (v := N 4425 1) (by omega) (by omega)
  have e3' : M3 = e_up N (w_at w J) 5 (N 4425 1) := e3
  rw [← e3'] at u1 u2 u3
  rw [(w_ref u1 hin).1]
  refine c_radd (u1.2.2.2 J hin).1.1 (fun A a1 a2 a3 a4 => fun M5 e5 M6 e6 => ?_)
  obtain ⟨v1, v2, v3⟩ := k_lts u1 hin a1 a2 a4
  obtain ⟨x1, x2, x3⟩ := k_put v1 hin (k := 12) (v := top) (by omega) (by omega)
  rw [← e5] at x1 x2 x3
  obtain ⟨y1, y2, y3⟩ := k_put x1 hin (k := 13) (v := bottom) (by omega) (by omega)
  rw [← e6] at y1 y2 y3
  have fr6 := w_fr_trans n3 (w_fr_trans u3 (w_fr_trans v3 (w_fr_trans x3 y3)))
  have r1 : s_row M3 (w_at w J + 1) = [] := by
    have := congrFun (congrArg (fun S : w_S => S.2.2.1) n2) J
    rw [w_of_t hin, hJ', w_addT_at] at this
    rw [← hJ'] at this
    rw [← show s_row N (w_at w J + 1) = [] from congrArg (fun t : w_T => t.2.1) this]
    exact s_row_congr (by rw [e3', e_up_row (by omega)]) (by rw [e3', e_up_row (by omega)])
  have n25 : N 4425 = M 4425 := n3 4425 (by omega) (by omega)
  have m25 : M3 4425 = M 4425 := by rw [u3 4425 (by omega) (by omega), n25]
  have e6w : w_of M6 w = w_addT (w_of M w) 7 (w_sale (w_of M w) (M (d + 1) 0) d at_ (M 4425) 0 top bottom) := by
    rw [y2, x2, v2, u2, n2, r1, m25, n25, hJ', w_put_addT, w_lts_addT, w_put_addT, w_put_addT]
    rfl
  refine s_up (σ := e_M) (P := fun dd i L => WX0_recordSale_48 Q dd (w_at w J) i L) (n := M d 15) (i0 := 0) (s := M6) (fun i L => w_ok L w ∧ w_of L w = w_addT (w_of M w) 7 (w_sale (w_of M w) (M (d + 1) 0) d at_ (M 4425) i top bottom) ∧ w_fr M L w) p0 ⟨y1, e6w, fr6⟩ ?_ ?_
  · intro d2 L ⟨l1, l2, l3⟩
    unfold WX0_recordSale_48 VX0_recordSale_48
    rw [l3 4423 (by omega) (by omega), cx.2.1, l3 d (by omega) (by omega)]
    exact ⟨fun _ => hq L l1 l2 l3, fun z => by omega⟩
  · intro d2 i L k1 k2 ⟨l1, l2, l3⟩ ih
    unfold WX0_recordSale_48 VX0_recordSale_48
    rw [l3 4423 (by omega) (by omega), cx.2.1, l3 d (by omega) (by omega), l3 4425 (by omega) (by omega), s_w (x := i + 2) (by omega) (by omega), (w_ref l1 hin).2]
    refine ⟨fun z => by omega, fun _ => ⟨by omega, c_radd (l1.2.2.2 J hin).1.2 (fun B b1 b2 b3 b4 => ?_)⟩⟩
    obtain ⟨z1, z2, z3⟩ := k_ovr l1 hin b1 b2 b4
    rw [s_w (by omega) (by omega)]
    refine ih B ⟨z1, ?_, w_fr_trans l3 z3⟩
    have r3 : s_row L (w_at w J + 3) = s_ar (fun i => M 4425 (i + 2)) i := by
      have := congrFun (congrArg (fun S : w_S => S.2.2.1) l2) J
      rw [w_of_t hin, hJ', w_addT_at] at this
      rw [← hJ'] at this
      exact congrArg (fun t : w_T => t.2.2) this
    rw [z2, l2, r3, hJ', w_ovr_addT, show (i + 2).toNat = i.toNat + 2 by omega]
    unfold w_sale
    rw [← r_add_ar (f := fun i => M 4425 (i + 2)) k1 (by omega)]
theorem o_sub_mem {l : s_Own} {i : Nat} {t b p : Int} {q : Int × Int × Int} (hi : ∀ x, l[i]? = some x → x.1 = p) (h : q ∈ o_sub l i t b) (hp : q.1 ≠ p) : q ∈ l := by
  unfold o_sub at h
  cases e : l[i]? with
  | none => rw [e] at h; exact h
  | some x =>
    rw [e] at h
    dsimp only at h
    split at h
    · exact List.mem_of_mem_eraseIdx h
    · rcases List.mem_or_eq_of_mem_set h with h | h
      · exact h
      · rw [h] at hp
        exact absurd (hi x e) hp
theorem o_fd_at {l : s_Own} {p : Int} {x : Int × Int × Int} (h : 0 ≤ o_fd l p) (hx : l[(o_fd l p).toNat]? = some x) : x.1 = p := by
  rcases r_find_cases (l.map (fun q => q.1)) p with ⟨-, e2⟩ | ⟨i, hi, e2, -, e3⟩
  · have : o_fd l p = -1 := e2
    omega
  · have e4 : o_fd l p = (i : Int) := e3
    rw [e4, show ((i : Nat) : Int).toNat = i by omega] at hx
    rw [List.getElem?_map, hx] at e2
    exact Option.some.inj e2
/-- the seller's own share; what is sold of it -/
def y_q (S : w_S) (r : Nat → Int) : Int × Int × Int := ((w_l S (r 0).toNat).2.2.2[(o_fd (w_l S (r 0).toNat).2.2.2 (r 1)).toNat]?).getD (0, 0, 1)
def y_T (S : w_S) (r : Nat → Int) (sT : Int) : Int := if sT = 0 then (y_q S r).2.1 else sT
def y_B (S : w_S) (r : Nat → Int) (sT sB : Int) : Int := if sT = 0 then (y_q S r).2.2 else sB
def y_can (S : w_S) (r : Nat → Int) : Prop := w_abl S (r 1).toNat = true ∧ 0 ≤ o_fd (w_l S (r 0).toNat).2.2.2 (r 1)
def y_ok (S : w_S) (r : Nat → Int) (ps : List (Int × Int)) (told sT sB : Int) : Prop := y_T S r sT * (y_q S r).2.2 ≤ (y_q S r).2.1 * y_B S r sT sB ∧ ¬ a_mixed r 2 told (r 1) ∧ d_wh ps 0 1 = true
def y_fin (S : w_S) (r : Nat → Int) (ps : List (Int × Int)) (sT sB : Int) : s_Own := o_pts r (y_T S r sT) (y_B S r sT sB) 2 ps (o_sub (w_l S (r 0).toNat).2.2.2 (o_fd (w_l S (r 0).toNat).2.2.2 (r 1)).toNat (y_T S r sT) (y_B S r sT sB))
theorem k_sell {M : e_M} {w d : Nat} {at_ : Int} {Q : Int → e_M → Prop} (h : w_ok M w) (hr : w_rg (w_of M w)) (hw : a_w w) (cx : a_cx M w d at_) (hd : a_d w d) (hday : M d 4 = M w 11) (hdo : s_dok M d) (hpk : d_pok (s_dpt M d)) (h0 : 0 ≤ M 4425 0 ∧ M 4425 0 < M (w + 24) 0) (h1 : 0 ≤ M 4425 1 ∧ M 4425 1 < M (w + 24) 1) (hsh : M d 11 ≠ 0 → (1 ≤ M d 11 ∧ M d 11 ≤ 1000) ∧ 1 ≤ M d 12 ∧ M d 12 ≤ 1000) (ht : M d 7 = M d 15 + 2)
    (q2 : ¬ y_can (w_of M w) (M 4425) → a_q M w Q 2 (w_of M w))
    (q6 : y_can (w_of M w) (M 4425) → ¬ y_ok (w_of M w) (M 4425) (s_dpt M d) (M d 7) (M d 11) (M d 12) → a_q M w Q 6 (w_of M w))
    (q4 : y_can (w_of M w) (M 4425) → y_ok (w_of M w) (M 4425) (s_dpt M d) (M d 7) (M d 11) (M d 12) → w_bar (w_of M w) (M 4425 0) (M 4425 1) → a_q M w Q 4 (w_of M w))
    (q6f : y_can (w_of M w) (M 4425) → y_ok (w_of M w) (M 4425) (s_dpt M d) (M d 7) (M d 11) (M d 12) → ¬ w_bar (w_of M w) (M 4425 0) (M 4425 1) → (∃ q ∈ y_fin (w_of M w) (M 4425) (s_dpt M d) (M d 11) (M d 12), 1000000 < q.2.2) → a_q M w Q 6 (w_of M w))
    (q7 : y_can (w_of M w) (M 4425) → y_ok (w_of M w) (M 4425) (s_dpt M d) (M d 7) (M d 11) (M d 12) → ¬ w_bar (w_of M w) (M 4425 0) (M 4425 1) → (∀ q ∈ y_fin (w_of M w) (M 4425) (s_dpt M d) (M d 11) (M d 12), q.2.2 ≤ 1000000) → (8 < (y_fin (w_of M w) (M 4425) (s_dpt M d) (M d 11) (M d 12)).length ∨ 60 ≤ M (w + 24) 7) → a_q M w Q 7 (w_of M w))
    (q0 : y_can (w_of M w) (M 4425) → y_ok (w_of M w) (M 4425) (s_dpt M d) (M d 7) (M d 11) (M d 12) → ¬ w_bar (w_of M w) (M 4425 0) (M 4425 1) → (∀ q ∈ y_fin (w_of M w) (M 4425) (s_dpt M d) (M d 11) (M d 12), q.2.2 ≤ 1000000) → ¬ (8 < (y_fin (w_of M w) (M 4425) (s_dpt M d) (M d 11) (M d 12)).length ∨ 60 ≤ M (w + 24) 7) → a_q M w Q 0 (w_addT (w_lpt (w_ows (w_of M w) (M 4425 0).toNat (y_fin (w_of M w) (M 4425) (s_dpt M d) (M d 11) (M d 12))) (M 4425 0).toNat 2 (M d 9)) 7 (w_sale (w_of M w) (M (d + 1) 0) d at_ (M 4425) (M d 15) (y_T (w_of M w) (M 4425) (M d 11)) (y_B (w_of M w) (M 4425) (M d 11) (M d 12))))) : WX0_sell M Q := by
  have hi : (M 4425 0).toNat < 80 := w_in0 h (by omega)
  have hw' := hw
  unfold a_w at hw'
  have hrl := hr.1 (M 4425 0).toNat (by show ((M 4425 0).toNat : Int) < M (w + 24) 0; omega)
  have hob := hrl.2.2.2
  have hk := (h.2.2.1 _ hi).2.2
  have hlen := s_own_len hk
  obtain ⟨g0, g14⟩ := id hk
  have hlt := o_fd_lt (l := s_own M (w_al w (M 4425 0).toNat)) (p := M 4425 1)
  have hww := (hr.2 1 (M 4425 1).toNat (by omega) (by omega) (by show ((M 4425 1).toNat : Int) < M (w + 24) 1; omega)).1.1
  have eO : (w_l (w_of M w) (M 4425 0).toNat).2.2.2 = s_own M (w_al w (M 4425 0).toNat) := by rw [w_l_e hi]; rfl
  obtain ⟨p0, p6⟩ := hdo.2.1
  have hpl := s_dpt_len hdo
  have ha : w_al w (M 4425 0).toNat = w + 29 + 9 * (M 4425 0).toNat := rfl
  rw [eO] at hob
  unfold WX0_sell VX0_sell
  rw [cx.1, cx.2.1, show (0 : Int).toNat = 0 from rfl, show (1 : Int).toNat = 1 from rfl]
  refine ⟨by omega, k_lot h h0.1 h0.2 ⟨by omega, c_placeOf hk (k_able h h1 hww (fun ab => ⟨fun z => by omega, fun _ => ⟨fun ge => ?_, fun lt => a_q_no h (q2 (fun c => by have := c.2; rw [eO] at this; omega))⟩⟩) (fun ab => ⟨fun _ => a_q_no h (q2 (fun c => by have := c.1; rw [ab] at this; cases this)), fun z => absurd rfl z⟩))⟩⟩
  have can : y_can (w_of M w) (M 4425) := ⟨ab, by rw [eO]; exact ge⟩
  replace q6 := q6 can
  replace q4 := q4 can
  replace q6f := q6f can
  replace q7 := q7 can
  replace q0 := q0 can
  have hq := s_own_at (M := M) (a := w_al w (M 4425 0).toNat) (i := (o_fd (s_own M (w_al w (M 4425 0).toNat)) (M 4425 1)).toNat) (by omega)
  have eq_ : y_q (w_of M w) (M 4425) = (M (w_al w (M 4425 0).toNat + 6) (o_fd (s_own M (w_al w (M 4425 0).toNat)) (M 4425 1)).toNat, M (w_al w (M 4425 0).toNat + 7) (o_fd (s_own M (w_al w (M 4425 0).toNat)) (M 4425 1)).toNat, M (w_al w (M 4425 0).toNat + 8) (o_fd (s_own M (w_al w (M 4425 0).toNat)) (M 4425 1)).toNat) := by
    unfold y_q
    rw [eO, hq]; rfl
  have hbd := hob _ (List.mem_of_getElem? hq)
  dsimp only at hbd
  have rr : 0 ≤ o_fd (s_own M (w_al w (M 4425 0).toNat)) (M 4425 1) ∧ o_fd (s_own M (w_al w (M 4425 0).toNat)) (M 4425 1) < 14 := by omega
  have at107 : ∀ T B : Int, T = y_T (w_of M w) (M 4425) (M d 11) → B = y_B (w_of M w) (M 4425) (M d 11) (M d 12) → (0 ≤ T ∧ T ≤ 1000000) → (0 < B ∧ B ≤ 1000000) → WX0_sell_107 Q (w_al w (M 4425 0).toNat) (M 4425 1) (o_fd (s_own M (w_al w (M 4425 0).toNat)) (M 4425 1)) T B M := by
    intro T B eT eB bT bB
    have m1 := s_mulB hbd.1 (show M (w_al w (M 4425 0).toNat + 7) (o_fd (s_own M (w_al w (M 4425 0).toNat)) (M 4425 1)).toNat ≤ 1000000 by omega) (show 0 ≤ B by omega) bB.2
    have m2 := s_mulB bT.1 bT.2 (show 0 ≤ M (w_al w (M 4425 0).toNat + 8) (o_fd (s_own M (w_al w (M 4425 0).toNat)) (M 4425 1)).toNat by omega) hbd.2.2.2
    unfold WX0_sell_107 VX0_sell_107
    rw [cx.2.1, s_wj (by omega) (by omega), s_wj (by omega) (by omega), show (0 : Int).toNat = 0 from rfl]
    unfold y_ok at q6 q4 q6f q7 q0
    unfold y_fin at q6f q7 q0
    rw [← eT, ← eB, eq_] at q6 q4 q6f q7 q0
    rw [eO] at q6f q7 q0
    dsimp only at q6 q4 q6f q7 q0
    refine ⟨rr, rr, fun lt => a_q_no h (q6 (fun c => by have := c.1; omega)), fun le => k_mixed cx (by omega) (by have := hdo.1; omega) (fun m => ⟨fun _ => a_q_no h (q6 (fun c => c.2.1 m)), fun z => by omega⟩) (fun m => ⟨fun z => absurd rfl z, fun _ => c_isWhole hdo hpk (fun e => ⟨fun _ => ⟨by omega, ?_⟩, fun z => by omega⟩) (fun e => ⟨fun z => absurd rfl z, fun _ => a_q_no h (q6 (fun c => by rw [e] at c; cases c.2.2))⟩)⟩)⟩
    have ok3 := And.intro le (And.intro m e)
    replace q4 := q4 ok3
    replace q6f := q6f ok3
    replace q7 := q7 ok3
    replace q0 := q0 ok3
    refine k_barred h cx (fun b => ⟨fun z => by omega, fun _ => a_q_no h (q4 b)⟩) (fun b => ⟨fun _ => ?_, fun z => absurd rfl z⟩)
    replace q6f := q6f b
    replace q7 := q7 b
    replace q0 := q0 b
    generalize hT : o_pts (M 4425) T B 2 (s_dpt M d) (o_sub (s_own M (w_al w (M 4425 0).toNat)) (o_fd (s_own M (w_al w (M 4425 0).toNat)) (M 4425 1)).toNat T B) = fin at q6f q7 q0
    refine c_copyOwners (by omega) hk (fun A a1 a2 a3 a4 => ?_)
    have fA : d_fr M A := fun c c0 c6 c7 c8 => a4 c c0 c6 c7 c8
    refine c_takeOff (B := 1000000) (C := 1000000) a2 (by rw [a1]; exact hob) bT.1 bT.2 bB.1 bB.2 (by decide) (fun no => absurd ?_ no) (fun _ E e1 e2 e3 e4 => ?_)
    · unfold o_has
      rw [a1]
      exact ⟨_, hq, ge, le⟩
    rw [a1] at e1
    have fE : d_fr M E := fun c c0 c6 c7 c8 => by rw [e4 c c0 c6 c7 c8, fA c c0 c6 c7 c8]
    have hnd : ∀ i j : Nat, 2 ≤ i → i < j → (j : Int) < M d 7 → M 4425 i ≠ M 4425 j := fun i j i1 i2 i3 e => m ⟨j, by omega, i3, Or.inr ⟨i, by omega, i2, e.symm⟩⟩
    have hns : ∀ i : Nat, 2 ≤ i → (i : Int) < M d 7 → M 4425 i ≠ M 4425 1 := fun i i1 i2 e => m ⟨i, by omega, i2, Or.inl e⟩
    refine s_up (σ := e_M) (P := fun dd i L => WX0_sell_193 Q dd (w_al w (M 4425 0).toNat) T B i L) (n := M d 15) (i0 := 0) (s := E) (fun i L => s_own L 4443 = o_pts (M 4425) T B 2 ((s_dpt M d).take i.toNat) (o_sub (s_own M (w_al w (M 4425 0).toNat)) (o_fd (s_own M (w_al w (M 4425 0).toNat)) (M 4425 1)).toNat T B) ∧ s_ook L 4443 ∧ d_fr M L) p0 ⟨e1, e2, fE⟩ ?_ ?_
    · intro d2 L ⟨l1, l2, l3⟩
      rw [List.take_of_length_le (by omega), hT] at l1
      obtain ⟨n1, n2⟩ := d_fr_w h hw l3
      obtain ⟨n3, n4, n5⟩ := e_fr_dd hw cx hd (e_fr_d l3)
      obtain ⟨n7, n8, -, -, n9⟩ := s_dd_congr n5
      have n6 : a_fr M L w := e_fr_a (e_fr_d l3)
      have nz : L (w + 24) = M (w + 24) := congrArg (fun S : w_S => S.1) n2
      have ll := s_own_len l2
      rw [l1] at ll
      unfold WX0_sell_193 VX0_sell_193
      rw [n3.1, n3.2.1, n7]
      refine ⟨fun _ => c_isTooFine l2 (fun f => ⟨fun z => by omega, fun _ => q6f (by rw [l1] at f; exact f) L n1 n2 n6⟩) (fun f => ⟨fun _ => ⟨fun gt => q7 (by rw [l1] at f; exact f) (Or.inl (by omega)) L n1 n2 n6, fun le8 => k_isFull (s := 7) (by omega) (fun fu => ⟨fun z => by omega, fun _ => q7 (by rw [l1] at f; exact f) (Or.inr (by rw [nz] at fu; exact fu)) L n1 n2 n6⟩) (fun fu => ⟨fun _ => ?_, fun z => absurd rfl z⟩)⟩, fun z => absurd rfl z⟩), fun z => by omega⟩
      rw [nz] at fu
      change M (w + 24) 7 < 60 at fu
      rw [l1] at f
      refine c_copyOwners (by omega) l2 (fun G g1 g2 g3 g4 => fun H eH => ?_)
      rw [l1] at g1
      obtain ⟨u1, u2, u3⟩ := k_ows n1 hi g1 g2 g3 g4
      obtain ⟨o3, o4, o5⟩ := e_fr_dd hw n3 hd (e_fr_w u3)
      have oG := s_dd_congr o5
      rw [o3.2.1, oG.1, n7] at eH
      obtain ⟨v1, v2, v3⟩ := k_lpt u1 hi (k := 2) (v := M d 9) (by omega)
      rw [← eH] at v1 v2 v3
      obtain ⟨r3, r4, r5⟩ := e_fr_dd hw o3 hd (e_fr_w v3)
      have rG := s_dd_congr r5
      have hz : H (w + 24) = M (w + 24) := by
        have := congrArg (fun S : w_S => S.1) v2
        rw [u2, n2] at this
        exact this
      have h11 : H w 11 = M w 11 := by
        have := congrArg (fun S : w_S => S.2.2.2) v2
        rw [u2, n2] at this
        exact this
      have hT2 : (w_of H w).2.2 = (w_of M w).2.2 := by rw [v2, u2, n2]; rfl
      refine k_recordSale v1 hw r3 hd (by rw [rG.1, oG.1, n7, h11]; exact hday) (rG.2.2.2.2 (oG.2.2.2.2 (n9 hdo))) (by rw [hz]; exact fu) (fun M' w1 w2 w3 => ?_)
      refine q0 f (fun c => by omega) M' w1 ?_ (e_fr_a (e_fr_trans (e_fr_d l3) (e_fr_trans (e_fr_w u3) (e_fr_trans (e_fr_w v3) (e_fr_w w3)))))
      rw [w2, r5 1 (by omega), o5 1 (by omega), n5 1 (by omega), r4, o4, n4, rG.1, oG.1, n7]
      have ew : w_sale (w_of H w) (M (d + 1) 0) d at_ (M 4425) (M d 15) T B = w_sale (w_of M w) (M (d + 1) 0) d at_ (M 4425) (M d 15) T B := by
        unfold w_sale w_new w_t
        rw [hT2, show (w_of H w).1 = (w_of M w).1 from hz]
      rw [ew, v2, u2, n2]
    · intro d2 i L k1 k2 ⟨l1, l2, l3⟩ ih
      obtain ⟨n3, n4, n5⟩ := e_fr_dd hw cx hd (e_fr_d l3)
      obtain ⟨n7, n8, -, -, n9⟩ := s_dd_congr n5
      have hat := s_dpt_at (M := M) (d := d) (i := i.toNat) (by omega)
      have hp := hpk _ (List.mem_of_getElem? hat)
      dsimp only at hp
      unfold WX0_sell_193 VX0_sell_193
      rw [n3.2.1, n7, n4, n5 3 (by omega), n5 4 (by omega), s_w (x := i + 2) (by omega) (by omega), s_w (x := i + 1) (by omega) (by omega)]
      have m1 := s_mulB bT.1 bT.2 (show 0 ≤ M (d + 3) i.toNat by omega) (show M (d + 3) i.toNat ≤ 1000 by omega)
      have m2 := s_mulB (show 0 ≤ B by omega) bB.2 (show 0 ≤ M (d + 4) i.toNat by omega) (show M (d + 4) i.toNat ≤ 1000 by omega)
      have m3 : 0 < B * M (d + 4) i.toNat := Int.mul_pos (by omega) (by omega)
      rw [s_wj (x := T * M (d + 3) i.toNat) (by omega) (by omega), s_wj (x := B * M (d + 4) i.toNat) (by omega) (by omega)]
      have hlt2 : (List.take i.toNat (s_dpt M d)).length = i.toNat := by rw [List.length_take]; omega
      refine ⟨fun z => by omega, fun _ => ⟨by omega, by omega, by omega, c_giveP (B := 1000000) (C := 1000000000) l2 (by decide) (fun q hq hqp => ?_) m1.1 (by omega) m3 (by omega) (by decide) (fun G g1 g2 g3 g4 => ?_)⟩⟩
      · rw [l1] at hq
        have hq2 := o_pts_mem hq (fun j j1 j2 => by
          rw [hlt2] at j2
          rw [hqp]
          have := hnd j (i + 2).toNat (by omega) (by omega) (by omega)
          exact fun z => this z.symm)
        refine hob q (o_sub_mem (p := M 4425 1) (fun x hx => o_fd_at ge hx) hq2 ?_)
        rw [hqp]
        exact hns _ (by omega) (by omega)
      · refine ih G ⟨?_, g2, fun c c0 c6 c7 c8 => by rw [g4 c c0 c6 c7 c8, l3 c c0 c6 c7 c8]⟩
        rw [g1, l1, show (i + 1).toNat = i.toNat + 1 by omega, List.take_add_one, hat]
        show _ = o_pts (M 4425) T B 2 (List.take i.toNat (s_dpt M d) ++ [_]) _
        rw [o_pts_snoc, hlt2, show 2 + i.toNat = (i + 2).toNat by omega]
  have at61 : ∀ f : Int, (f = 0 ↔ M d 11 ≠ 0) → WX0_sell_61 Q (w_al w (M 4425 0).toNat) (M 4425 1) (o_fd (s_own M (w_al w (M 4425 0).toNat)) (M 4425 1)) f M := by
    intro f hf
    unfold WX0_sell_61 VX0_sell_61
    rw [cx.2.1]
    refine ⟨fun z => ?_, fun z => ⟨rr, ?_⟩⟩
    · have ne := hf.mp z
      have hs := hsh ne
      unfold WX0_sell_84 VX0_sell_84
      rw [cx.2.1]
      refine ⟨fun _ => at107 _ _ (by unfold y_T; rw [if_neg ne]) (by unfold y_B; rw [if_neg ne]) (by omega) (by omega), fun y => absurd z y⟩
    · have e0 : M d 11 = 0 := Decidable.byContradiction (fun c => z (hf.mpr c))
      unfold WX0_sell_84 VX0_sell_84
      refine ⟨fun y => absurd y z, fun _ => ⟨rr, at107 _ _ (by unfold y_T; rw [if_pos e0, eq_]) (by unfold y_B; rw [if_pos e0, eq_]) (by omega) (by omega)⟩⟩
  exact ⟨fun ne => at61 0 ⟨fun _ => ne, fun _ => rfl⟩, fun e0 => at61 1 ⟨fun z => by omega, fun z => absurd e0 z⟩⟩
