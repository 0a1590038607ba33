/-! Acts: take -/
/-- a SALE that an OPTION may take -/
def t_sok (o s : w_T) (day : Int) : Prop := o.1 1 < s.1 1 ∧ day - s.1 4 ≤ 60 ∧ (s.1 5 ≠ o.1 5 ∧ o.1 5 ∉ s.2.2) ∧ s.1 8 = 0 ∧ r_get s.2.1 0 ∈ o.2.1
def w_lat (S : w_S) (o : w_T) (day r : Int) : Prop := (r = -1 ∧ ∀ k : Nat, (k : Int) < w_z S 7 → ¬ t_sok o (w_t S 7 k) day) ∨ ∃ k : Nat, r = k ∧ (k : Int) < w_z S 7 ∧ t_sok o (w_t S 7 k) day ∧ ∀ j : Nat, k < j → (j : Int) < w_z S 7 → ¬ t_sok o (w_t S 7 j) day
theorem k_latest {M : e_M} {w d J : Nat} {at_ : Int} {Q : Int → Prop} (h : w_ok M w) (cx : a_cx M w d at_) (hJ : J < 290) (hday : 0 ≤ M d 4 ∧ M d 4 ≤ 219144) (hf : ∀ k : Nat, (k : Int) < M (w + 24) 7 → 0 ≤ (w_t (w_of M w) 7 k).1 4 ∧ (w_t (w_of M w) 7 k).1 4 ≤ 219144) (hq : ∀ r, w_lat (w_of M w) ((w_of M w).2.2.1 J) (M d 4) r → Q r) : WX0_latestSale (w_at w J) M Q := by
  have hz := w_zb h (show 7 < 8 by omega)
  have hm : w_mx 7 = 60 := rfl
  have eo : (w_of M w).2.2.1 J = x_th M (w_at w J) := w_of_t hJ
  unfold WX0_latestSale VX0_latestSale
  rw [cx.1]
  refine ⟨by omega, fun y1 e1 => ?_⟩
  rw [show (7 : Int).toNat = 7 from rfl, s_w (by omega) (by omega)] at e1
  refine ⟨(y1 + 1).toNat + 1, s_iter (σ := Int) (P := fun dd x => WX0_latestSale_13 M Q dd (w_at w J) x) (fun x => (x + 1).toNat) (fun x => -1 ≤ x ∧ x < M (w + 24) 7 ∧ ∀ j : Nat, x < j → (j : Int) < w_z (w_of M w) 7 → ¬ t_sok ((w_of M w).2.2.1 J) (w_t (w_of M w) 7 j) (M d 4)) ?_ _ y1 ⟨by omega, by omega, fun j j1 j2 => by change (j : Int) < M (w + 24) 7 at j2; omega⟩ (by omega)⟩
  intro d2 x ⟨x1, x2, x3⟩ ih
  unfold WX0_latestSale_13 VX0_latestSale_13
  rw [cx.1, cx.2.1]
  refine ⟨fun lt => hq (-1) (Or.inl ⟨rfl, fun k hk => x3 k (by omega) hk⟩), fun ge => k_at h (by omega) ge x2 ?_⟩
  rw [show (7 : Int).toNat = 7 from rfl]
  have hin := w_in (s := 7) (i := x.toNat) h (by omega) (by omega)
  have tr := w_t_row (M := M) (w := w) hin
  have rf := w_ref h hin
  have rfo := w_ref h hJ
  have hfx := hf x.toNat (by omega)
  rw [w_t_k hin] at hfx
  have no : ¬ t_sok ((w_of M w).2.2.1 J) (w_t (w_of M w) 7 x.toNat) (M d 4) → WX0_latestSale_132 M (WX0_latestSale_13 M Q d2) Q (w_at w J) x := by
    intro ne
    show WX0_latestSale_13 M Q d2 (w_at w J) (e_w32 (x + -1))
    rw [s_w (by omega) (by omega)]
    refine ih (x + -1) ⟨by omega, by omega, fun j j1 j2 => ?_⟩ (by show (x + -1 + 1).toNat < (x + 1).toNat; omega)
    by_cases c : (j : Int) = x
    · rw [show j = x.toNat by omega]; exact ne
    · exact x3 j (by omega) j2
  have yes : t_sok ((w_of M w).2.2.1 J) (w_t (w_of M w) 7 x.toNat) (M d 4) → Q x := fun s => hq x (Or.inr ⟨x.toNat, by omega, by show (x.toNat : Int) < M (w + 24) 7; omega, s, fun j j1 j2 => x3 j (by omega) j2⟩)
  unfold t_sok at no yes
  rw [eo, w_t_k hin, w_t_k hin, w_t_k hin, w_t_k hin, tr.1, tr.2] at no yes
  change ¬ (M (w_at w J) 1 < _ ∧ _ ∧ (_ ≠ M (w_at w J) 5 ∧ M (w_at w J) 5 ∉ _) ∧ _ ∧ _ ∈ s_row M (w_at w J + 1)) → _ at no
  change (M (w_at w J) 1 < _ ∧ _ ∧ (_ ≠ M (w_at w J) 5 ∧ M (w_at w J) 5 ∉ _) ∧ _ ∧ _ ∈ s_row M (w_at w J + 1)) → _ at yes
  have k61 : ∀ f : Int, (f ≠ 0 → M (w_at w J) 1 < M (w_at w (w_F 7 + x.toNat)) 1 ∧ M d 4 - M (w_at w (w_F 7 + x.toNat)) 4 ≤ 60) → (f = 0 → ¬ (M (w_at w J) 1 < M (w_at w (w_F 7 + x.toNat)) 1 ∧ M d 4 - M (w_at w (w_F 7 + x.toNat)) 4 ≤ 60)) → WX0_latestSale_61 M (WX0_latestSale_13 M Q d2) Q (w_at w J) x (w_at w (w_F 7 + x.toNat)) f := by
    intro f f1 f0
    have k93 : ∀ g : Int, (g ≠ 0 → M (w_at w (w_F 7 + x.toNat)) 5 ≠ M (w_at w J) 5 ∧ M (w_at w J) 5 ∉ s_row M (w_at w (w_F 7 + x.toNat) + 3)) → (g = 0 → ¬ (M (w_at w (w_F 7 + x.toNat)) 5 ≠ M (w_at w J) 5 ∧ M (w_at w J) 5 ∉ s_row M (w_at w (w_F 7 + x.toNat) + 3))) → WX0_latestSale_93 M (WX0_latestSale_13 M Q d2) Q (w_at w J) x (w_at w (w_F 7 + x.toNat)) f g := by
      intro g g1 g0
      unfold WX0_latestSale_93 VX0_latestSale_93
      rw [rf.1, rfo.1]
      refine ⟨fun z => no (fun c => f0 z ⟨c.1, c.2.1⟩), fun nf => ⟨fun z => no (fun c => g0 z c.2.2.1), fun ng => ⟨fun nt => no (fun c => nt c.2.2.2.1), fun t0 => c_rget (h.2.2.2 _ hin).1.1 (c_has (h.2.2.2 _ hJ).1.1 (fun m => ⟨fun z => by omega, fun _ => yes ⟨(f1 nf).1, (f1 nf).2, g1 ng, t0, m⟩⟩) (fun m => ⟨fun _ => no (fun c => m c.2.2.2.2), fun z => absurd rfl z⟩))⟩⟩⟩
    unfold WX0_latestSale_61 VX0_latestSale_61
    rw [rf.2]
    refine ⟨fun e => k93 0 (fun z => absurd rfl z) (fun _ c => c.1 e), fun ne => c_has (h.2.2.2 _ hin).1.2 (fun m => ⟨fun _ => k93 0 (fun z => absurd rfl z) (fun _ c => c.2 m), fun z => by omega⟩) (fun m => ⟨fun z => absurd rfl z, fun _ => k93 1 (fun _ => ⟨ne, m⟩) (fun z => by omega)⟩)⟩
  rw [s_w (by omega) (by omega)]
  exact ⟨fun le => k61 0 (fun z => absurd rfl z) (fun _ c => by omega), fun lt => ⟨fun gt => k61 0 (fun z => absurd rfl z) (fun _ c => by omega), fun le => k61 1 (fun _ => ⟨lt, le⟩) (fun z => by omega)⟩⟩
/-- what several give back -/
def o_tkf : List (Int × Int × Int) → s_Own → s_Own
  | [], o => o
  | g :: gs, o => o_tkf gs (o_sub o (o_fd o g.1).toNat g.2.1 g.2.2)
def o_tko : List (Int × Int × Int) → s_Own → Prop
  | [], _ => True
  | g :: gs, o => o_has o g.1 g.2.1 g.2.2 ∧ o_tko gs (o_sub o (o_fd o g.1).toNat g.2.1 g.2.2)
def o_gs (row : List Int) (T B : Int) (ps : List (Int × Int)) : List (Int × Int × Int) := List.zipWith (fun b q => (b, T * q.1, B * q.2)) row ps
/-- what is known of a SALE -/
def w_sok (M : e_M) (w : Nat) (t : w_T) : Prop := (0 ≤ t.1 4 ∧ t.1 4 ≤ 219144) ∧ (0 ≤ t.1 12 ∧ t.1 12 ≤ 1000000) ∧ (0 < t.1 13 ∧ t.1 13 ≤ 1000000) ∧ (a_d w (t.1 11).toNat ∧ s_dok M (t.1 11).toNat ∧ d_pok (s_dpt M (t.1 11).toNat)) ∧ t.2.2.length = (s_dpt M (t.1 11).toNat).length ∧ t.2.2.Nodup
def k_fin (M : e_M) (S : w_S) (o s : w_T) : s_Own := o_give (o_tkf (o_gs s.2.2 (s.1 12) (s.1 13) (s_dpt M (s.1 11).toNat)) (w_l S (r_get s.2.1 0).toNat).2.2.2) (o.1 5) (s.1 12) (s.1 13)
def k_tko (M : e_M) (S : w_S) (s : w_T) : Prop := o_tko (o_gs s.2.2 (s.1 12) (s.1 13) (s_dpt M (s.1 11).toNat)) (w_l S (r_get s.2.1 0).toNat).2.2.2
theorem k_take {M : e_M} {w d : Nat} {at_ : Int} {Q : Int → e_M → Prop} (h : w_ok M w) (hr : w_rg (w_of M w)) (hw : a_w w) (cx : a_cx M w d at_) (hd : a_d w d) (hday : 0 ≤ M d 4 ∧ M d 4 ≤ 219144) (h0 : 0 ≤ M 4425 0 ∧ M 4425 0 < M (w + 24) 6) (hsl : ∀ k : Nat, (k : Int) < M (w + 24) 7 → w_sok M w (w_t (w_of M w) 7 k))
    (q2 : w_abl (w_of M w) ((w_t (w_of M w) 6 (M 4425 0).toNat).1 5).toNat = false → a_q M w Q 2 (w_of M w))
    (q9 : w_abl (w_of M w) ((w_t (w_of M w) 6 (M 4425 0).toNat).1 5).toNat = true → w_lat (w_of M w) (w_t (w_of M w) 6 (M 4425 0).toNat) (M d 4) (-1) → a_q M w Q 9 (w_of M w))
    (q6 : w_abl (w_of M w) ((w_t (w_of M w) 6 (M 4425 0).toNat).1 5).toNat = true → ∀ k : Nat, w_lat (w_of M w) (w_t (w_of M w) 6 (M 4425 0).toNat) (M d 4) k → ¬ k_tko M (w_of M w) (w_t (w_of M w) 7 k) → a_q M w Q 6 (w_of M w))
    (q6f : w_abl (w_of M w) ((w_t (w_of M w) 6 (M 4425 0).toNat).1 5).toNat = true → ∀ k : Nat, w_lat (w_of M w) (w_t (w_of M w) 6 (M 4425 0).toNat) (M d 4) k → k_tko M (w_of M w) (w_t (w_of M w) 7 k) → (∃ q ∈ k_fin M (w_of M w) (w_t (w_of M w) 6 (M 4425 0).toNat) (w_t (w_of M w) 7 k), 1000000 < q.2.2) → a_q M w Q 6 (w_of M w))
    (q7 : w_abl (w_of M w) ((w_t (w_of M w) 6 (M 4425 0).toNat).1 5).toNat = true → ∀ k : Nat, w_lat (w_of M w) (w_t (w_of M w) 6 (M 4425 0).toNat) (M d 4) k → k_tko M (w_of M w) (w_t (w_of M w) 7 k) → (∀ q ∈ k_fin M (w_of M w) (w_t (w_of M w) 6 (M 4425 0).toNat) (w_t (w_of M w) 7 k), q.2.2 ≤ 1000000) → 8 < (k_fin M (w_of M w) (w_t (w_of M w) 6 (M 4425 0).toNat) (w_t (w_of M w) 7 k)).length → a_q M w Q 7 (w_of M w))
    (qd : w_abl (w_of M w) ((w_t (w_of M w) 6 (M 4425 0).toNat).1 5).toNat = true → ∀ k : Nat, w_lat (w_of M w) (w_t (w_of M w) 6 (M 4425 0).toNat) (M d 4) k → k_tko M (w_of M w) (w_t (w_of M w) 7 k) → (∀ q ∈ k_fin M (w_of M w) (w_t (w_of M w) 6 (M 4425 0).toNat) (w_t (w_of M w) 7 k), q.2.2 ≤ 1000000) → (k_fin M (w_of M w) (w_t (w_of M w) 6 (M 4425 0).toNat) (w_t (w_of M w) 7 k)).length ≤ 8 → a_q M w Q 0 (w_put (w_ows (w_of M w) (r_get (w_t (w_of M w) 7 k).2.1 0).toNat (k_fin M (w_of M w) (w_t (w_of M w) 6 (M 4425 0).toNat) (w_t (w_of M w) 7 k))) (w_F 7 + k) 8 1)) : WX0_takeSale M Q := by
  have hw' := hw
  unfold a_w at hw'
  have ho := w_in (s := 6) (i := (M 4425 0).toNat) h (by omega) (by omega)
  have trO := w_t_row (M := M) (w := w) ho
  have hro := hr.2 6 (M 4425 0).toNat (by omega) (by omega) (by show ((M 4425 0).toNat : Int) < M (w + 24) 6; omega)
  have eO : (w_of M w).2.2.1 (w_F 6 + (M 4425 0).toNat) = w_t (w_of M w) 6 (M 4425 0).toNat := rfl
  have hwho : 0 ≤ (w_t (w_of M w) 6 (M 4425 0).toNat).1 5 ∧ (w_t (w_of M w) 6 (M 4425 0).toNat).1 5 < M (w + 24) 1 := ⟨hro.1.2 (by omega) (by omega), hro.1.1⟩
  have hww := (hr.2 1 ((w_t (w_of M w) 6 (M 4425 0).toNat).1 5).toNat (by omega) (by omega) (by show (((w_t (w_of M w) 6 (M 4425 0).toNat).1 5).toNat : Int) < M (w + 24) 1; omega)).1.1
  unfold WX0_takeSale VX0_takeSale
  rw [cx.1, show (0 : Int).toNat = 0 from rfl]
  refine ⟨by omega, k_at h (by omega) h0.1 h0.2 ?_⟩
  rw [show (6 : Int).toNat = 6 from rfl]
  rw [show M (w_at w (w_F 6 + (M 4425 0).toNat)) 5 = (w_t (w_of M w) 6 (M 4425 0).toNat).1 5 from (w_t_k ho).symm]
  refine k_able h hwho hww (fun ab => ⟨fun _ => k_latest h cx ho hday (fun k hk => (hsl k hk).1) (fun r hlat => ⟨fun ge => ?_, fun lt => ?_⟩), fun z => by omega⟩) (fun ab => ⟨fun z => absurd rfl z, fun _ => a_q_no h (q2 ab)⟩)
  case refine_2 =>
    refine a_q_no h (q9 ab ?_)
    rw [eO] at hlat
    have hl0 := hlat
    rcases hl0 with ⟨e, _⟩ | ⟨k, e, _⟩
    · rw [e] at hlat; exact hlat
    · omega
  rw [eO] at hlat
  obtain ⟨k, ek⟩ : ∃ k : Nat, r = k := ⟨r.toNat, by omega⟩
  subst ek
  replace q6 := q6 ab k hlat
  replace q6f := q6f ab k hlat
  replace q7 := q7 ab k hlat
  replace qd := qd ab k hlat
  have hk : (k : Int) < w_z (w_of M w) 7 ∧ t_sok (w_t (w_of M w) 6 (M 4425 0).toNat) (w_t (w_of M w) 7 k) (M d 4) := by
    rcases hlat with ⟨e, _⟩ | ⟨k2, e, e1, e2, _⟩
    · omega
    · have : k = k2 := by omega
      rw [this]; exact ⟨e1, e2⟩
  have hk1 : (k : Int) < M (w + 24) 7 := hk.1
  have hs := w_in (s := 7) (i := k) h (by omega) hk1
  have trS := w_t_row (M := M) (w := w) hs
  have rfS := w_ref h hs
  have hsk := hsl k hk1
  unfold w_sok at hsk
  obtain ⟨-, bT, bB, ⟨sd, sdo, spk⟩, slen, snd⟩ := hsk
  have hlin := hro.2.1 _ hk.2.2.2.2.2
  change 0 ≤ _ ∧ _ < M (w + 24) 0 at hlin
  unfold k_tko at q6
  unfold k_tko k_fin at q6f q7 qd
  refine k_at h (by omega) ge hk1 ?_
  rw [show (7 : Int).toNat = 7 from rfl, show ((k : Nat) : Int).toNat = k by omega, rfS.1]
  refine c_rget (h.2.2.2 _ hs).1.1 ?_
  rw [← trS.1]
  generalize hL : r_get (w_t (w_of M w) 7 k).2.1 0 = l at *
  have hi : l.toNat < 80 := w_in0 h (by omega)
  have hrl := hr.1 l.toNat (by show (l.toNat : Int) < M (w + 24) 0; omega)
  have hob := hrl.2.2.2
  have eOw : (w_l (w_of M w) l.toNat).2.2.2 = s_own M (w_al w l.toNat) := by rw [w_l_e hi]; rfl
  rw [eOw] at hob q6 q6f q7 qd
  have hkl := (h.2.2.1 _ hi).2.2
  have ha : w_al w l.toNat = w + 29 + 9 * l.toNat := rfl
  refine k_lot h hlin.1 hlin.2 (c_copyOwners (by omega) hkl (fun A a1 a2 a3 a4 => ?_))
  have fA : d_fr M A := fun c c0 c6 c7 c8 => a4 c c0 c6 c7 c8
  have e12 : M (w_at w (w_F 7 + k)) 12 = (w_t (w_of M w) 7 k).1 12 := (w_t_k hs).symm
  have e13 : M (w_at w (w_F 7 + k)) 13 = (w_t (w_of M w) 7 k).1 13 := (w_t_k hs).symm
  have e11 : M (w_at w (w_F 7 + k)) 11 = (w_t (w_of M w) 7 k).1 11 := (w_t_k hs).symm
  have eOw5 : M (w_at w (w_F 6 + (M 4425 0).toNat)) 5 = (w_t (w_of M w) 6 (M 4425 0).toNat).1 5 := (w_t_k ho).symm
  have sl3 := s_row_len (h.2.2.2 _ hs).1.2
  rw [← trS.2] at sl3
  have hAt : ∀ j, w_at w j = w + 749 + 5 * j := fun _ => rfl
  generalize hTT : (w_t (w_of M w) 7 k).1 12 = T at *
  generalize hBB : (w_t (w_of M w) 7 k).1 13 = B at *
  generalize hDD : ((w_t (w_of M w) 7 k).1 11).toNat = D at *
  generalize hHo : (w_t (w_of M w) 6 (M 4425 0).toNat).1 5 = ho_ at *
  have hrow : (w_t (w_of M w) 7 k).2.2 = s_row M (w_at w (w_F 7 + k) + 3) := trS.2
  generalize hRow : (w_t (w_of M w) 7 k).2.2 = row at *
  have nob : ho_ ∉ row := by have := hk.2.2.2.1.2; rw [hHo, hRow] at this; exact this
  obtain ⟨p0, p6⟩ := sdo.2.1
  have hpl := s_dpt_len sdo
  have hgl : ((o_gs row T B (s_dpt M D)).length : Int) = M D 15 := by
    unfold o_gs
    rw [List.length_zipWith]
    omega
  have sd' := sd
  unfold a_d at sd'
  have cells : ∀ L : e_M, d_fr M L → ((L (w_at w (w_F 7 + k)) 11).toNat = D ∧ L D = M D ∧ L (D + 3) = M (D + 3) ∧ L (D + 4) = M (D + 4)) ∧ (L (w_at w (w_F 7 + k)) 12 = T ∧ L (w_at w (w_F 7 + k)) 13 = B ∧ (L (w_at w (w_F 7 + k)) 10).toNat = w_at w (w_F 7 + k) + 3) ∧ L (w_at w (w_F 6 + (M 4425 0).toNat)) 5 = ho_ := by
    intro L f
    have x1 := f (w_at w (w_F 7 + k)) (by rw [hAt]; omega) (by rw [hAt]; omega) (by rw [hAt]; omega) (by rw [hAt]; omega)
    have x2 := f (w_at w (w_F 6 + (M 4425 0).toNat)) (by rw [hAt]; omega) (by rw [hAt]; omega) (by rw [hAt]; omega) (by rw [hAt]; omega)
    rw [x1, x2, e11, e12, e13, hDD, eOw5]
    exact ⟨⟨rfl, f D (by omega) (by omega) (by omega) (by omega), f (D + 3) (by omega) (by omega) (by omega) (by omega), f (D + 4) (by omega) (by omega) (by omega) (by omega)⟩, ⟨rfl, rfl, rfS.2⟩, rfl⟩
  refine s_up (σ := e_M) (P := fun dd i L => WX0_takeSale_85 Q dd (w_at w (w_F 6 + (M 4425 0).toNat)) (w_at w (w_F 7 + k)) (w_al w l.toNat) i L) (n := M D 15) (i0 := 0) (s := A) (fun i L => d_fr M L ∧ s_ook L 4443 ∧ (o_tko (o_gs row T B (s_dpt M D)) (s_own M (w_al w l.toNat)) ↔ o_tko ((o_gs row T B (s_dpt M D)).drop i.toNat) (s_own L 4443)) ∧ o_tkf (o_gs row T B (s_dpt M D)) (s_own M (w_al w l.toNat)) = o_tkf ((o_gs row T B (s_dpt M D)).drop i.toNat) (s_own L 4443) ∧ ∀ q ∈ s_own L 4443, (∀ j : Nat, (j : Int) < i → row[j]? ≠ some q.1) → q ∈ s_own M (w_al w l.toNat)) p0 ⟨fA, a2, by rw [a1]; exact Iff.rfl, by rw [a1]; rfl, fun q hq _ => by rw [a1] at hq; exact hq⟩ ?_ ?_
  · intro d2 L ⟨l3, l2, l4, l5, l6⟩
    obtain ⟨⟨c1, c2, c3, c4⟩, ⟨c5, c6, c7⟩, c8⟩ := cells L l3
    rw [List.drop_eq_nil_of_le (by omega)] at l4 l5
    have tko := l4.mpr trivial
    change o_tkf _ _ = s_own L 4443 at l5
    replace q6f := q6f tko
    replace q7 := q7 tko
    replace qd := qd tko
    rw [l5] at q6f q7 qd
    obtain ⟨n1, n2⟩ := d_fr_w h hw l3
    obtain ⟨n3, n4, n5⟩ := e_fr_dd hw cx hd (e_fr_d l3)
    have n6 : a_fr M L w := e_fr_a (e_fr_d l3)
    unfold WX0_takeSale_85 VX0_takeSale_85
    rw [c1, c2, c5, c6, c8]
    refine ⟨fun _ => c_giveP (B := 1000000) (C := 1000000) l2 (by decide) (fun q hq hqp => hob q (l6 q hq (fun j _ e => ?_))) bT.1 bT.2 bB.1 bB.2 (by decide) (fun G g1 g2 g3 g4 => ?_), fun z => by omega⟩
    · rw [hqp] at e
      exact nob (List.mem_of_getElem? e)
    have fG : d_fr M G := fun c c0 c6 c7 c8 => by rw [g4 c c0 c6 c7 c8, l3 c c0 c6 c7 c8]
    obtain ⟨m1, m2⟩ := d_fr_w h hw fG
    have m6 : a_fr M G w := e_fr_a (e_fr_d fG)
    have gl := s_own_len g2
    rw [g1] at gl
    refine c_isTooFine g2 (fun f => ⟨fun z => by omega, fun _ => q6f (by rw [g1] at f; exact f) G m1 m2 m6⟩) (fun f => ⟨fun _ => ⟨fun le => ?_, fun gt => q7 (by rw [g1] at f; exact f) (by omega) G m1 m2 m6⟩, fun z => absurd rfl z⟩)
    rw [g1] at f
    refine c_copyOwners (by omega) g2 (fun H h1 h2 h3 h4 => ⟨by omega, fun H2 eH => ?_⟩)
    rw [g1] at h1
    obtain ⟨u1, u2, u3⟩ := k_ows m1 hi h1 h2 h3 h4
    obtain ⟨v1, v2, v3⟩ := k_put u1 hs (k := 8) (v := 1) (by omega) (by omega)
    rw [eH]
    refine qd f (by omega) _ v1 ?_ (e_fr_a (e_fr_trans (e_fr_d fG) (e_fr_trans (e_fr_w u3) (e_fr_w v3))))
    rw [v2, u2, m2]
  · intro d2 i L k1 k2 ⟨l3, l2, l4, l5, l6⟩ ih
    obtain ⟨⟨c1, c2, c3, c4⟩, ⟨c5, c6, c7⟩, c8⟩ := cells L l3
    obtain ⟨n1, n2⟩ := d_fr_w h hw l3
    have n6 : a_fr M L w := e_fr_a (e_fr_d l3)
    have hat := s_dpt_at (M := M) (d := D) (i := i.toNat) (by omega)
    have hp := spk _ (List.mem_of_getElem? hat)
    dsimp only at hp
    have er : s_row L (w_at w (w_F 7 + k) + 3) = row := by
      rw [hrow]
      exact s_row_congr (l3 _ (by rw [hAt]; omega) (by rw [hAt]; omega) (by rw [hAt]; omega) (by rw [hAt]; omega)) (l3 _ (by rw [hAt]; omega) (by rw [hAt]; omega) (by rw [hAt]; omega) (by rw [hAt]; omega))
    have hRi : row[i.toNat]? = some (row[i.toNat]'(by omega)) := List.getElem?_eq_getElem (by omega)
    have eg : r_get row i = row[i.toNat]'(by omega) := by
      unfold r_get
      rw [if_pos k1, hRi]; rfl
    generalize hb : row[i.toNat]'(by omega) = b at hRi eg
    have hgi : (o_gs row T B (s_dpt M D))[i.toNat]? = some (b, T * M (D + 3) i.toNat, B * M (D + 4) i.toNat) := by
      unfold o_gs
      rw [List.getElem?_zipWith, hRi, hat]
    obtain ⟨hgl2, hge⟩ := List.getElem?_eq_some_iff.mp hgi
    rw [List.drop_eq_getElem_cons hgl2, hge] at l4 l5
    have m1 := s_mulB bT.1 bT.2 (show 0 ≤ M (D + 3) i.toNat by omega) (show M (D + 3) i.toNat ≤ 1000 by omega)
    have m2 := s_mulB (show 0 ≤ B by omega) bB.2 (show 0 ≤ M (D + 4) i.toNat by omega) (show M (D + 4) i.toNat ≤ 1000 by omega)
    have m3 : 0 < B * M (D + 4) i.toNat := Int.mul_pos (by omega) (by omega)
    have nd2 : ∀ j : Nat, (j : Int) < i → row[j]? ≠ some b := by
      intro j hj e
      obtain ⟨z1, z2⟩ := List.getElem?_eq_some_iff.mp e
      obtain ⟨z3, z4⟩ := List.getElem?_eq_some_iff.mp hRi
      exact (List.pairwise_iff_getElem.mp snd) j i.toNat z1 z3 (by omega) (z2.trans z4.symm)
    unfold WX0_takeSale_85 VX0_takeSale_85
    rw [c1, c2, c3, c4, c5, c6, c7]
    refine ⟨fun z => by omega, fun _ => ⟨by omega, fun y5 e5 => c_rget (n1.2.2.2 _ hs).1.2 ⟨by omega, ?_⟩⟩⟩
    rw [s_wj (by omega) (by omega)] at e5
    rw [er, eg, e5, s_wj (by omega) (by omega)]
    refine c_takeOffP (B := 1000000) (C := 1000000000) l2 (fun q hq hqp => hob q (l6 q hq (fun j hj e => nd2 j hj (by rw [e, hqp])))) m1.1 (by omega) m3 (by omega) (by decide) (fun no => ⟨fun z => absurd rfl z, fun _ => q6 (fun c => no (l4.mp c).1) L n1 n2 n6⟩) (fun hs_ G g1 g2 g3 g4 => ⟨fun _ => ?_, fun z => by omega⟩)
    rw [s_w (by omega) (by omega)]
    refine ih G ⟨fun c c0 c6 c7 c8 => by rw [g4 c c0 c6 c7 c8, l3 c c0 c6 c7 c8], g2, ?_, ?_, fun q hq hj => ?_⟩
    · rw [g1, l4, show (i + 1).toNat = i.toNat + 1 by omega]
      exact ⟨fun c => c.2, fun c => ⟨hs_, c⟩⟩
    · rw [g1, l5, show (i + 1).toNat = i.toNat + 1 by omega]; rfl
    · rw [g1] at hq
      have hb_ : q.1 ≠ b := fun e => hj i.toNat (by omega) (by rw [hRi, e])
      have hge0 : 0 ≤ o_fd (s_own L 4443) b := by obtain ⟨_, _, z, _⟩ := hs_; exact z
      exact l6 q (o_sub_mem (p := b) (fun x hx => o_fd_at hge0 hx) hq hb_) (fun j hj2 => hj j (by omega))
