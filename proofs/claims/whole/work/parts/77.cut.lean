/-! the class's Plane: closing and cutting -/
def g_lo (R : s_Fig) (i l : Nat) : Bool := decide ((g_pt R i).2 < (g_pt R l).2) || (decide ((g_pt R i).2 = (g_pt R l).2) && decide ((g_pt R i).1 < (g_pt R l).1))
/-- the lowest of the first ones, up to the k-th -/
def g_low (R : s_Fig) : Nat → Nat
  | 0 => 0
  | k + 1 => if g_lo R (k + 1) (g_low R k) = true then k + 1 else g_low R k
theorem g_low_le {R : s_Fig} : ∀ {k : Nat}, g_low R k ≤ k
  | 0 => Nat.le_refl 0
  | k + 1 => by
    have := g_low_le (R := R) (k := k)
    unfold g_low
    split <;> omega
def g_ro (n low k : Nat) : Nat := if low + k < n then low + k else low + k - n
def g_bf (n i : Nat) : Nat := if 0 < i then i - 1 else n - 1
def g_kpt (R : s_Fig) (i : Nat) : Int := g_T (g_pt R (g_bf R.length i)) (g_pt R i) (g_pt R (g_nx R.length i))
/-- the first k points from the lowest on, but for straight ones -/
def g_kp (R : s_Fig) (low : Nat) : Nat → s_Fig
  | 0 => []
  | k + 1 => g_kp R low k ++ (if g_kpt R (g_ro R.length low k) = 0 then [] else [g_pt R (g_ro R.length low k)])
theorem g_kp_mono {R : s_Fig} {low : Nat} : ∀ {j k : Nat}, j ≤ k → (g_kp R low j).length ≤ (g_kp R low k).length
  | j, 0, h => by rw [Nat.le_zero.mp h]; exact Nat.le_refl _
  | j, k + 1, h => by
    by_cases e : j = k + 1
    · rw [e]; exact Nat.le_refl _
    · have := g_kp_mono (R := R) (low := low) (show j ≤ k by omega)
      show _ ≤ (g_kp R low k ++ _).length
      rw [List.length_append]; omega
def g_cls (R : s_Fig) : s_Fig := g_kp R (g_low R (R.length - 1)) R.length
theorem c_close {M : e_M} {a : Nat} {Q : Int → e_M → Prop} (hr : p_rok M) (hr1 : 1 ≤ M 4426 5) (hR : ∀ k : Nat, s_lp (g_pt (p_raw M) k)) (ha : a = 4427 ∨ a = 4430 ∨ a = 4433)
    (q1 : 2 < (g_cls (p_raw M)).length → (g_cls (p_raw M)).length ≤ 40 → ∀ M', s_fig M' a = g_cls (p_raw M) → s_fok M' a → (∀ b, b ≠ a → b ≠ a + 1 → b ≠ a + 2 → M' b = M b) → Q 1 M')
    (q0 : ¬ (2 < (g_cls (p_raw M)).length ∧ (g_cls (p_raw M)).length ≤ 40) → ∀ M', s_fok M' a → (∀ b, b ≠ a → b ≠ a + 1 → b ≠ a + 2 → M' b = M b) → Q 0 M') : WX5_close a M Q := by
  have rl := p_raw_len hr
  obtain ⟨h0, h160⟩ := id hr
  unfold g_cls at q1 q0
  unfold WX5_close VX5_close
  show ∃ j, WX5_close_4 Q j a 0 1 M
  refine s_up (σ := Int) (P := fun dd i l => WX5_close_4 Q dd a l i M) (n := M 4426 5) (i0 := 1) (s := 0) (fun i l => l = (g_low (p_raw M) (i.toNat - 1) : Int)) hr1 rfl ?_ ?_
  · intro d2 l el
    unfold WX5_close_4 VX5_close_4
    refine ⟨fun _ => c_fclear (fun M1 f1 f2 f3 f4 => ?_), fun z => by omega⟩
    have hlow := g_low_le (R := p_raw M) (k := (M 4426 5).toNat - 1)
    have el2 : g_low (p_raw M) ((p_raw M).length - 1) = g_low (p_raw M) ((M 4426 5).toNat - 1) := by rw [show (p_raw M).length = (M 4426 5).toNat by omega]
    rw [el2] at q1 q0
    generalize hL : g_low (p_raw M) ((M 4426 5).toNat - 1) = low at *
    have fr0 : ∀ b, b ≠ a → b ≠ a + 1 → b ≠ a + 2 → M1 b = M b := fun b b0 _ _ => f4 b b0
    refine s_up (σ := e_M) (P := fun dd i L => WX5_close_71 Q dd a l i L) (n := M 4426 5) (i0 := 0) (s := M1) (fun i L => s_fig L a = g_kp (p_raw M) low i.toNat ∧ s_fok L a ∧ ∀ b, b ≠ a → b ≠ a + 1 → b ≠ a + 2 → L b = M b) h0 ⟨f1, f2, fr0⟩ ?_ ?_
    · intro d3 L ⟨l1, l2, l3⟩
      have ll := s_fig_len l2
      rw [l1, show (M 4426 5).toNat = (p_raw M).length by omega] at ll
      rw [show (M 4426 5).toNat = (p_raw M).length by omega] at l1
      have l40 := l2.2
      unfold WX5_close_71 VX5_close_71
      rw [l3 4426 (by omega) (by omega) (by omega)]
      refine ⟨fun _ => ⟨fun le => q0 (fun c => by omega) L l2 l3, fun gt => q1 (by omega) (by omega) L l1 l2 l3⟩, fun z => by omega⟩
    · intro d3 i L k1 k2 ⟨l1, l2, l3⟩ ih
      have e4426 := l3 4426 (by omega) (by omega) (by omega)
      have e4436 := l3 4436 (by omega) (by omega) (by omega)
      have e4437 := l3 4437 (by omega) (by omega) (by omega)
      have hro : g_ro (p_raw M).length low i.toNat < (p_raw M).length := by unfold g_ro; split <;> omega
      have hlr := p_raw_pt (M := M) (i := g_ro (p_raw M).length low i.toNat) (by omega)
      have hbf : g_bf (p_raw M).length (g_ro (p_raw M).length low i.toNat) < (p_raw M).length := by unfold g_bf; split <;> omega
      have hbr := p_raw_pt (M := M) (i := g_bf (p_raw M).length (g_ro (p_raw M).length low i.toNat)) (by omega)
      have hnx := g_nx_lt (n := (p_raw M).length) (i := g_ro (p_raw M).length low i.toNat) hro
      have hnr := p_raw_pt (M := M) (i := g_nx (p_raw M).length (g_ro (p_raw M).length low i.toNat)) (by omega)
      have t1 := s_lp_cb (hR (g_ro (p_raw M).length low i.toNat))
      have t2 := s_lp_cb (hR (g_bf (p_raw M).length (g_ro (p_raw M).length low i.toNat)))
      have t3 := s_lp_cb (hR (g_nx (p_raw M).length (g_ro (p_raw M).length low i.toNat)))
      have ek : g_kp (p_raw M) low (i.toNat + 1) = g_kp (p_raw M) low i.toNat ++ (if g_kpt (p_raw M) (g_ro (p_raw M).length low i.toNat) = 0 then [] else [g_pt (p_raw M) (g_ro (p_raw M).length low i.toNat)]) := rfl
      unfold g_kpt g_T at ek
      rw [hlr] at t1 ek
      rw [hbr] at t2 ek
      rw [hnr] at t3 ek
      dsimp only at t1 t2 t3 ek
      have c2 : ∀ j : Int, j = (g_nx (p_raw M).length (g_ro (p_raw M).length low i.toNat) : Int) → ∀ b : Int, b = (g_bf (p_raw M).length (g_ro (p_raw M).length low i.toNat) : Int) → ∀ r : Int, r = (g_ro (p_raw M).length low i.toNat : Int) → WX5_close_144 (WX5_close_71 Q d3) Q a l i r b j L := by
        intro j ej b eb r er
        have fin : ∀ G, s_fig G a = g_kp (p_raw M) low (i.toNat + 1) → s_fok G a → (∀ b, b ≠ a → b ≠ a + 1 → b ≠ a + 2 → G b = M b) → WX5_close_225 (WX5_close_71 Q d3) Q a l i G := by
          intro G g1 g2 g3
          show WX5_close_71 Q d3 a l (e_w32 (i + 1)) G
          rw [s_w (by omega) (by omega)]
          exact ih G ⟨by rw [g1, show (i + 1).toNat = i.toNat + 1 by omega], g2, g3⟩
        unfold WX5_close_144 VX5_close_144
        rw [e4436, e4437, ej, eb, er, show ((g_nx (p_raw M).length (g_ro (p_raw M).length low i.toNat) : Nat) : Int).toNat = g_nx (p_raw M).length (g_ro (p_raw M).length low i.toNat) by omega, show ((g_bf (p_raw M).length (g_ro (p_raw M).length low i.toNat) : Nat) : Int).toNat = g_bf (p_raw M).length (g_ro (p_raw M).length low i.toNat) by omega, show ((g_ro (p_raw M).length low i.toNat : Nat) : Int).toNat = g_ro (p_raw M).length low i.toNat by omega]
        refine ⟨by omega, by omega, by omega, by omega, by omega, by omega, c_turn t2.1 t2.2 t1.1 t1.2 t3.1 t3.2 ⟨fun e => fin L ?_ l2 l3, fun ne => ⟨fun lt => ⟨by omega, by omega, c_fadd l2 (fun G g1 g2 g3 g4 => fin G ?_ g2 (fun b b0 b1 b2 => by rw [g4 b b0 b1 b2, l3 b b0 b1 b2]))⟩, fun ge => ?_⟩⟩⟩
        · rw [ek, if_pos e, List.append_nil, l1]
        · have := s_fig_len l2
          rw [g1, if_pos (by omega), l1, ek, if_neg ne]
        · refine q0 (fun c => ?_) L l2 l3
          have m := g_kp_mono (R := p_raw M) (low := low) (show i.toNat + 1 ≤ (p_raw M).length by omega)
          rw [ek, if_neg ne, List.length_append, List.length_singleton, ← l1] at m
          have := s_fig_len l2
          omega
      have c3 : ∀ b : Int, b = (g_bf (p_raw M).length (g_ro (p_raw M).length low i.toNat) : Int) → ∀ r : Int, r = (g_ro (p_raw M).length low i.toNat : Int) → WX5_close_123 (WX5_close_71 Q d3) Q a l i r b L := by
        intro b eb r er
        unfold WX5_close_123 VX5_close_123
        rw [e4426, s_w (x := r + 1) (by omega) (by omega)]
        refine ⟨fun le => c2 0 ?_ b eb r er, fun lt => c2 (r + 1) ?_ b eb r er⟩
        · unfold g_nx; rw [if_neg (by omega)]; rfl
        · unfold g_nx; rw [if_pos (by omega)]; omega
      have c4 : ∀ r : Int, r = (g_ro (p_raw M).length low i.toNat : Int) → WX5_close_103 (WX5_close_71 Q d3) Q a l i r L := by
        intro r er
        unfold WX5_close_103 VX5_close_103
        rw [e4426, s_w (x := M 4426 5 - 1) (by omega) (by omega), s_w (x := r - 1) (by omega) (by omega)]
        refine ⟨fun le => c3 _ ?_ r er, fun lt => c3 _ ?_ r er⟩
        · unfold g_bf; rw [if_neg (by omega)]; omega
        · unfold g_bf; rw [if_pos (by omega)]; omega
      unfold WX5_close_71 VX5_close_71
      rw [e4426, s_w (x := l + i) (by omega) (by omega), s_w (x := l + i - M 4426 5) (by omega) (by omega)]
      refine ⟨fun z => by omega, fun _ => ⟨fun le => c4 _ ?_, fun lt => c4 _ ?_⟩⟩
      · unfold g_ro; rw [if_neg (by omega)]; omega
      · unfold g_ro; rw [if_pos (by omega)]; omega
  · intro d2 i l k1 k2 el ih
    have hlow := g_low_le (R := p_raw M) (k := i.toNat - 1)
    have el3 : g_low (p_raw M) (i.toNat) = if g_lo (p_raw M) i.toNat (g_low (p_raw M) (i.toNat - 1)) = true then i.toNat else g_low (p_raw M) (i.toNat - 1) := by
      rw [show g_low (p_raw M) i.toNat = g_low (p_raw M) ((i.toNat - 1) + 1) by congr 1; omega]
      conv => lhs; unfold g_low
      rw [show i.toNat - 1 + 1 = i.toNat by omega]
    unfold g_lo at el3
    rw [p_raw_pt (M := M) (i := i.toNat) (by omega), p_raw_pt (M := M) (i := g_low (p_raw M) (i.toNat - 1)) (by omega)] at el3
    dsimp only at el3
    have go : ∀ v : Int, v = (g_low (p_raw M) i.toNat : Int) → WX5_close_59 (WX5_close_4 Q d2) Q a v i M := by
      intro v ev
      show WX5_close_4 Q d2 a v (e_w32 (i + 1)) M
      rw [s_w (by omega) (by omega)]
      exact ih v (by rw [ev, show (i + 1).toNat - 1 = i.toNat by omega])
    have et : l.toNat = g_low (p_raw M) (i.toNat - 1) := by omega
    rw [← et] at el3
    have yes : (M 4437 i.toNat < M 4437 l.toNat ∨ (M 4437 i.toNat = M 4437 l.toNat ∧ M 4436 i.toNat < M 4436 l.toNat)) → WX5_close_57 (WX5_close_4 Q d2) Q a i M := by
      intro c
      show WX5_close_59 (WX5_close_4 Q d2) Q a i i M
      refine go i ?_
      rw [el3, if_pos (by simp; exact c)]; omega
    have no : ¬ (M 4437 i.toNat < M 4437 l.toNat ∨ (M 4437 i.toNat = M 4437 l.toNat ∧ M 4436 i.toNat < M 4436 l.toNat)) → WX5_close_59 (WX5_close_4 Q d2) Q a l i M := by
      intro c
      refine go l ?_
      rw [el3, if_neg (by simp; omega)]; omega
    unfold WX5_close_4 VX5_close_4
    exact ⟨fun z => by omega, fun _ => ⟨by omega, by omega, fun lt => yes (Or.inl lt), fun ge => ⟨by omega, by omega, fun ne => no (by omega), fun e => ⟨by omega, by omega, fun ge2 => no (by omega), fun lt2 => yes (Or.inr ⟨e, lt2⟩)⟩⟩⟩⟩
def g_rawL (F ps : s_Fig) : s_Fig := ps ++ g_bord F (g_pt ps (ps.length - 1)) (g_pt ps 0)
def g_rawR (F ps : s_Fig) : s_Fig := ps.reverse ++ g_bord F (g_pt ps 0) (g_pt ps (ps.length - 1))
def g_cut (F ps : s_Fig) : Prop := (2 ≤ ps.length ∧ g_pt ps 0 ≠ g_pt ps (ps.length - 1)) ∧ (∀ i, i < ps.length → g_where F (g_pt ps i).1 (g_pt ps i).2 1 = if i = 0 ∨ i = ps.length - 1 then 1 else 2) ∧ ∀ i, i + 1 < ps.length → g_ins F (g_pt ps i) (g_pt ps (i + 1)) ∧ ¬ g_mt ps i
def g_okc (R : s_Fig) : Prop := 2 < (g_cls R).length ∧ (g_cls R).length ≤ 40
theorem g_brd_mem {F : s_Fig} {q x : Int × Int} : ∀ {n c : Nat}, x ∈ g_brd F q n c → ∃ k, x = g_pt F k
  | 0, _, h => by cases h
  | n + 1, c, h => by
    unfold g_brd at h
    rcases List.mem_append.mp h with h | h
    · split at h
      · cases h
      · exact ⟨_, List.mem_singleton.mp h⟩
    · exact g_brd_mem h
theorem g_bord_mem {F : s_Fig} {p q x : Int × Int} (h : x ∈ g_bord F p q) : ∃ k, x = g_pt F k := by
  unfold g_bord at h
  split at h
  · cases h
  · exact g_brd_mem h
theorem g_bord_len {F : s_Fig} {p q : Int × Int} : (g_bord F p q).length ≤ 2 * F.length := by
  unfold g_bord
  split
  · exact Nat.zero_le _
  · refine Nat.le_trans g_brd_len ?_
    have h1 := g_str_lt (F := F) (x := p.1) (y := p.2)
    have h2 := g_str_lt (F := F) (x := q.1) (y := q.2)
    unfold g_bst
    split <;> omega
theorem g_pt_lp {R : s_Fig} (h : ∀ x ∈ R, s_lp x) (k : Nat) : s_lp (g_pt R k) := g_pt_b (F := R) h k
theorem c_cut {M : e_M} {a d : Nat} {Q : Int → e_M → Prop} (h : s_fok M a) (hb : s_fb (s_fig M a)) (ha : ∀ k, k ≤ 2 → a + k < 4426 ∨ (4433 ≤ a + k ∧ a + k ≤ 4435)) (hd : s_dok M d) (hdo : d + 6 < 4426 ∨ 4437 < d) (hp : ∀ q ∈ s_dps M d, (0 ≤ q.1 ∧ q.1 ≤ 999999) ∧ 0 ≤ q.2 ∧ q.2 ≤ 999999)
    (q1 : g_cut (s_fig M a) (s_dps M d) → g_okc (g_rawL (s_fig M a) (s_dps M d)) → g_okc (g_rawR (s_fig M a) (s_dps M d)) → ∀ M', s_fig M' 4427 = g_cls (g_rawL (s_fig M a) (s_dps M d)) → s_fok M' 4427 → s_fig M' 4430 = g_cls (g_rawR (s_fig M a) (s_dps M d)) → s_fok M' 4430 → (∀ b, b < 4426 ∨ 4437 < b ∨ (4433 ≤ b ∧ b ≤ 4435) → M' b = M b) → Q 1 M')
    (q0 : ¬ (g_cut (s_fig M a) (s_dps M d) ∧ g_okc (g_rawL (s_fig M a) (s_dps M d)) ∧ g_okc (g_rawR (s_fig M a) (s_dps M d))) → ∀ M', (∀ b, b < 4426 ∨ 4437 < b ∨ (4433 ≤ b ∧ b ≤ 4435) → M' b = M b) → Q 0 M') : WX5_cut a d M Q := by
  obtain ⟨n0, n12⟩ := hd.2.2
  have hl := s_dps_len hd
  have ep : ∀ k : Nat, (k : Int) < M d 18 → g_pt (s_dps M d) k = (M (d + 5) k, M (d + 6) k) := fun k hk => by unfold g_pt; rw [s_dps_at hk]; rfl
  have hpp : ∀ k : Nat, (k : Int) < M d 18 → (0 ≤ M (d + 5) k ∧ M (d + 5) k ≤ 999999) ∧ 0 ≤ M (d + 6) k ∧ M (d + 6) k ≤ 999999 := fun k hk => hp _ (List.mem_of_getElem? (s_dps_at hk))
  have q0' : ¬ g_cut (s_fig M a) (s_dps M d) → Q 0 M := fun c => q0 (fun z => c z.1) M (fun _ _ => rfl)
  unfold WX5_cut VX5_cut
  rw [s_w (by omega) (by omega), show (0 : Int).toNat = 0 from rfl]
  refine ⟨fun lt => q0' (fun c => by have := c.1.1; omega), fun ge => ⟨by omega, by omega, ?_⟩⟩
  have el : (M d 18 - 1).toNat = (s_dps M d).length - 1 := by omega
  have main : g_pt (s_dps M d) 0 ≠ g_pt (s_dps M d) ((s_dps M d).length - 1) → WX5_cut_44 Q a d (M d 18 - 1) M := by
    intro hne
    show ∃ j, WX5_cut_47 Q j a d (M d 18 - 1) 0 M
    refine s_up (σ := Unit) (P := fun dd i _ => WX5_cut_47 Q dd a d (M d 18 - 1) i M) (n := M d 18) (i0 := 0) (s := ()) (fun i _ => ∀ j : Nat, (j : Int) < i → g_where (s_fig M a) (g_pt (s_dps M d) j).1 (g_pt (s_dps M d) j).2 1 = if j = 0 ∨ j = (s_dps M d).length - 1 then 1 else 2) n0 (fun j hj => by omega) ?_ ?_
    · intro d2 _ hw
      have hlp : ∀ k : Nat, (k : Int) < M d 18 → s_lp (g_pt (s_dps M d) k) := by
        intro k hk
        have w1 := hw k hk
        rw [ep k hk] at w1 ⊢
        have := hpp k hk
        exact g_where_lp hb this.1.1 this.2.1 (fun z => by rw [z] at w1; split at w1 <;> omega)
      have hlps : ∀ x ∈ s_dps M d, s_lp x := by
        intro x hx
        obtain ⟨k, hk, e⟩ := s_ar_mem.mp hx
        have := hlp k (by omega)
        rw [ep k (by omega), e] at this
        exact this
      unfold WX5_cut_47 VX5_cut_47
      refine ⟨fun _ => ?_, fun z => by omega⟩
      show ∃ j, WX5_cut_108 Q j a d (M d 18 - 1) 0 M
      refine s_up (σ := Unit) (P := fun dd i _ => WX5_cut_108 Q dd a d (M d 18 - 1) i M) (n := M d 18 - 1) (i0 := 0) (s := ()) (fun i _ => ∀ j : Nat, (j : Int) < i → g_ins (s_fig M a) (g_pt (s_dps M d) j) (g_pt (s_dps M d) (j + 1)) ∧ ¬ g_mt (s_dps M d) j) (by omega) (fun j hj => by omega) ?_ ?_
      · intro d3 _ hin
        have hcut : g_cut (s_fig M a) (s_dps M d) := ⟨⟨by omega, hne⟩, fun i hi => hw i (by omega), fun i hi => hin i (by omega)⟩
        unfold WX5_cut_108 VX5_cut_108
        refine ⟨fun _ => c_layCutF hd (by omega) (fun A a1 a2 a3 => ?_), fun z => by omega⟩
        have aF : ∀ k, k ≤ 2 → a + k ≠ 4426 ∧ a + k ≠ 4436 ∧ a + k ≠ 4437 := fun k hk => by have := ha k hk; omega
        have same : ∀ N : e_M, (∀ b, b < 4426 ∨ 4437 < b ∨ (4433 ≤ b ∧ b ≤ 4435) → N b = M b) → s_fig N a = s_fig M a ∧ s_fok N a ∧ (N d = M d ∧ N (d + 5) = M (d + 5) ∧ N (d + 6) = M (d + 6)) := by
          intro N f
          have x0 := f (a + 0) (by have := ha 0 (by omega); omega)
          have x1 := f (a + 1) (by have := ha 1 (by omega); omega)
          have x2 := f (a + 2) (by have := ha 2 (by omega); omega)
          rw [Nat.add_zero] at x0
          refine ⟨s_fig_congr (by rw [x0]) x1 x2, ?_, f d (by omega), f (d + 5) (by omega), f (d + 6) (by omega)⟩
          unfold s_fok; rw [x0]; exact h
        have frA : ∀ b, b < 4426 ∨ 4437 < b ∨ (4433 ≤ b ∧ b ≤ 4435) → A b = M b := fun b hb => a3.1 b (by omega) (by omega) (by omega)
        obtain ⟨A1, A2, A3, A4, A5⟩ := same A frA
        have pl := p_raw_len a2
        rw [a1] at pl
        rw [A4, A5, show (0 : Int).toNat = 0 from rfl, el]
        have P0 := ep 0 (by omega)
        have Pn := ep ((s_dps M d).length - 1) (by omega)
        have L0 := hlp 0 (by omega)
        have Ln := hlp ((s_dps M d).length - 1) (by omega)
        rw [P0] at L0
        rw [Pn] at Ln
        have len1 := s_fig_len h
        have h40 := h.2
        refine ⟨by omega, by omega, by omega, by omega, c_layBorder A2 (by rw [A1]; exact hb) aF Ln L0 a2 (by omega) (fun B b1 b2 b3 => ?_)⟩
        rw [A1, a1] at b1
        have eL : p_raw B = g_rawL (s_fig M a) (s_dps M d) := by
          unfold g_rawL
          rw [b1, P0, Pn]
        have frB : ∀ b, b < 4426 ∨ 4437 < b ∨ (4433 ≤ b ∧ b ≤ 4435) → B b = M b := fun b hb => by rw [b3.1 b (by omega) (by omega) (by omega), frA b hb]
        have plB := p_raw_len b2
        have rlp : ∀ x ∈ g_rawL (s_fig M a) (s_dps M d), s_lp x := by
          intro x hx
          rcases List.mem_append.mp hx with hx | hx
          · exact hlps x hx
          · obtain ⟨k, e⟩ := g_bord_mem hx
            rw [e]; exact g_pt_b hb k
        have rrp : ∀ x ∈ g_rawR (s_fig M a) (s_dps M d), s_lp x := by
          intro x hx
          rcases List.mem_append.mp hx with hx | hx
          · exact hlps x (List.mem_reverse.mp hx)
          · obtain ⟨k, e⟩ := g_bord_mem hx
            rw [e]; exact g_pt_b hb k
        have step2 : ∀ (r3 : Int) (C : e_M), (∀ b, b ≠ 4427 → b ≠ 4428 → b ≠ 4429 → C b = B b) → (r3 ≠ 0 → g_okc (g_rawL (s_fig M a) (s_dps M d)) ∧ s_fig C 4427 = g_cls (g_rawL (s_fig M a) (s_dps M d)) ∧ s_fok C 4427) → (r3 = 0 → ¬ g_okc (g_rawL (s_fig M a) (s_dps M d))) → WX5_layCut d (M d 18 - 1) (-1) C (fun M5 => (0 ≤ (0 : Int) ∧ (0 : Int) < 12) ∧ (0 ≤ (0 : Int) ∧ (0 : Int) < 12) ∧ (0 ≤ M d 18 - 1 ∧ M d 18 - 1 < 12) ∧ (0 ≤ M d 18 - 1 ∧ M d 18 - 1 < 12) ∧ WX5_layBorder a (M5 (d + 5) 0) (M5 (d + 6) 0) (M5 (d + 5) ((s_dps M d).length - 1)) (M5 (d + 6) ((s_dps M d).length - 1)) M5 (fun M6 => WX5_close 4430 M6 (fun r7 M8 => (r7 = 0 → Q 0 M8) ∧ (¬ r7 = 0 → (r3 = 0 → Q 0 M8) ∧ (¬ r3 = 0 → Q 1 M8))))) := by
          intro r3 C fC C1 C0
          have frC : ∀ b, b < 4426 ∨ 4437 < b ∨ (4433 ≤ b ∧ b ≤ 4435) → C b = M b := fun b hb => by rw [fC b (by omega) (by omega) (by omega), frB b hb]
          obtain ⟨-, -, D3, D4, D5⟩ := same C frC
          have dC : s_dok C d ∧ s_dps C d = s_dps M d := ⟨by unfold s_dok; rw [D3]; exact hd, by unfold s_dps; rw [D3, D4, D5]⟩
          rw [show M d 18 = C d 18 by rw [D3]]
          refine c_layCutB dC.1 (by rw [D3]; omega) (by omega) (fun E e1 e2 e3 => ?_)
          rw [D3]
          have frE : ∀ b, b < 4426 ∨ 4437 < b ∨ (4433 ≤ b ∧ b ≤ 4435) → E b = M b := fun b hb => by rw [e3.1 b (by omega) (by omega) (by omega), frC b hb]
          obtain ⟨E1, E2, E3, E4, E5⟩ := same E frE
          rw [dC.2] at e1
          have plE := p_raw_len e2
          rw [e1, List.length_reverse] at plE
          rw [E4, E5]
          refine ⟨by omega, by omega, by omega, by omega, c_layBorder E2 (by rw [E1]; exact hb) aF L0 Ln e2 (by omega) (fun G g1 g2 g3 => ?_)⟩
          rw [E1, e1] at g1
          have eR : p_raw G = g_rawR (s_fig M a) (s_dps M d) := by
            unfold g_rawR
            rw [g1, P0, Pn]
          have frG : ∀ b, b < 4426 ∨ 4437 < b ∨ (4433 ≤ b ∧ b ≤ 4435) → G b = M b := fun b hb => by rw [g3.1 b (by omega) (by omega) (by omega), frE b hb]
          have plG := p_raw_len g2
          rw [g1, List.length_append, List.length_reverse] at plG
          have f27 : ∀ b, 4427 ≤ b → b ≤ 4429 → G b = C b := fun b b1 b2 => by rw [g3.1 b (by omega) (by omega) (by omega), e3.1 b (by omega) (by omega) (by omega)]
          refine c_close g2 (by omega) (fun k => by rw [eR]; exact g_pt_lp rrp k) (Or.inr (Or.inl rfl)) (fun o1 o2 H h1 h2 h3 => ⟨fun z => by omega, fun _ => ⟨fun z => q0 (fun c => C0 z c.2.1) H (fun b hb => by rw [h3 b (by omega) (by omega) (by omega), frG b hb]), fun nz => ?_⟩⟩) (fun no H h2 h3 => ⟨fun _ => q0 (fun c => no (by rw [eR]; exact c.2.2)) H (fun b hb => by rw [h3 b (by omega) (by omega) (by omega), frG b hb]), fun z => absurd rfl z⟩)
          rw [eR] at o1 o2 h1
          obtain ⟨okL, fL, kL⟩ := C1 nz
          have cell : ∀ b, 4427 ≤ b → b ≤ 4429 → H b = C b := fun b b1 b2 => by rw [h3 b (by omega) (by omega) (by omega), f27 b b1 b2]
          refine q1 hcut okL ⟨o1, o2⟩ H ?_ ?_ h1 h2 (fun b hb => by rw [h3 b (by omega) (by omega) (by omega), frG b hb])
          · rw [← fL]
            exact s_fig_congr (by rw [cell 4427 (by omega) (by omega)]) (cell 4428 (by omega) (by omega)) (cell 4429 (by omega) (by omega))
          · unfold s_fok
            rw [cell 4427 (by omega) (by omega)]
            exact kL
        refine c_close b2 (by rw [← plB, b1, List.length_append]; omega) (fun k => by rw [eL]; exact g_pt_lp rlp k) (Or.inl rfl) (fun o1 o2 C h1 h2 h3 => step2 1 C h3 (fun _ => ?_) (fun z => by omega)) (fun no C h2 h3 => step2 0 C h3 (fun z => absurd rfl z) (fun _ c => no ?_))
        · rw [eL] at o1 o2 h1
          exact ⟨⟨o1, o2⟩, h1, h2⟩
        · rw [eL]; exact c
      · intro d3 i _ k1 k2 hin ih
        unfold WX5_cut_108 VX5_cut_108
        refine ⟨fun z => by omega, fun _ => c_isInside h hb hd ⟨k1, by omega⟩ (hlp _ (by omega)) (hlp _ (by omega)) (fun yes => ⟨fun z => by omega, fun _ => c_meetsLater hd ⟨k1, by omega⟩ hlp (fun mt => ⟨fun z => by omega, fun _ => q0' (fun c => (c.2.2 i.toNat (by omega)).2 mt)⟩) (fun nm => ⟨fun _ => ?_, fun z => absurd rfl z⟩)⟩) (fun no => ⟨fun _ => q0' (fun c => no (c.2.2 i.toNat (by omega)).1), fun z => absurd rfl z⟩)⟩
        rw [s_w (by omega) (by omega)]
        refine ih () (fun j hj => ?_)
        by_cases c : (j : Int) = i
        · rw [show j = i.toNat by omega]; exact ⟨yes, nm⟩
        · exact hin j (by omega)
    · intro d2 i _ k1 k2 hw ih
      have hpi := hpp i.toNat (by omega)
      have due : ∀ v : Int, v = (if i.toNat = 0 ∨ i.toNat = (s_dps M d).length - 1 then 1 else 2) → WX5_cut_69 (WX5_cut_47 Q d2) Q a d (M d 18 - 1) i v M := by
        intro v ev
        unfold WX5_cut_69 VX5_cut_69
        refine ⟨by omega, by omega, c_where h hb (by omega) (by omega) (by omega) ⟨fun e => ?_, fun ne => q0' (fun c => ne ?_)⟩⟩
        · rw [s_w (by omega) (by omega)]
          refine ih () (fun j hj => ?_)
          by_cases c : (j : Int) = i
          · rw [show j = i.toNat by omega, ep _ (by omega), ← ev]; exact e
          · exact hw j (by omega)
        · have := c.2.1 i.toNat (by omega)
          rw [ep _ (by omega), ← ev] at this
          exact this
      unfold WX5_cut_47 VX5_cut_47
      refine ⟨fun z => by omega, fun _ => ⟨fun e => due 1 (by rw [if_pos (by omega)]), fun ne => ⟨fun ne2 => due 2 (by rw [if_neg (by omega)]), fun e => due 1 (by rw [if_pos (by omega)])⟩⟩⟩
  rw [el]
  have e0 := ep 0 (by omega)
  have en := ep ((s_dps M d).length - 1) (by omega)
  rw [e0, en] at main
  refine ⟨fun ne => main (fun c => ne (congrArg Prod.fst c)), fun ex => ⟨by omega, by omega, fun ne => main (fun c => ne (congrArg Prod.snd c)), fun ey => q0' (fun c => c.1.2 ?_)⟩⟩
  rw [e0, en, ex, ey]
