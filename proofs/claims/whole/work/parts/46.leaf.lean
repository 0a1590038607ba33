/-! leaves: stretches, Lot.begin, Thing, Deed -/
def s_cb (x : Int) : Prop := -1000000 ≤ x ∧ x ≤ 1000000
theorem s_turnb {ax ay bx b cx cy : Int} (h1 : s_cb ax) (h2 : s_cb ay) (h3 : s_cb bx) (h4 : s_cb b) (h5 : s_cb cx) (h6 : s_cb cy) : (-4000000000000 ≤ (bx - ax) * (cy - ay) ∧ (bx - ax) * (cy - ay) ≤ 4000000000000) ∧ -4000000000000 ≤ (b - ay) * (cx - ax) ∧ (b - ay) * (cx - ax) ≤ 4000000000000 := by
  unfold s_cb at *
  have m1 := s_mulb (x := bx - ax) (y := cy - ay) (A := 2000000) (B := 2000000) (by omega) (by omega) (by omega) (by omega) (by omega) (by omega)
  have m2 := s_mulb (x := b - ay) (y := cx - ax) (A := 2000000) (B := 2000000) (by omega) (by omega) (by omega) (by omega) (by omega) (by omega)
  omega
theorem c_turn {M : e_M} {ax ay bx b cx cy : Int} {Q : Int → Prop} (h1 : s_cb ax) (h2 : s_cb ay) (h3 : s_cb bx) (h4 : s_cb b) (h5 : s_cb cx) (h6 : s_cb cy) (hq : Q (g_turn ax ay bx b cx cy)) : WX11_turn ax ay bx b cx cy M Q := by
  obtain ⟨m1, m2⟩ := s_turnb h1 h2 h3 h4 h5 h6
  unfold s_cb at *
  show Q _
  rw [s_w (x := bx - ax) (by omega) (by omega), s_w (x := cy - ay) (by omega) (by omega), s_w (x := b - ay) (by omega) (by omega), s_w (x := cx - ax) (by omega) (by omega), s_wj (x := (bx - ax) * (cy - ay)) (by omega) (by omega), s_wj (x := (b - ay) * (cx - ax)) (by omega) (by omega), s_wj (by omega) (by omega)]
  exact hq
theorem c_isOn {M : e_M} {ax ay bx b cx cy : Int} {Q : Int → Prop} (h1 : s_cb ax) (h2 : s_cb ay) (h3 : s_cb bx) (h4 : s_cb b) (h5 : s_cb cx) (h6 : s_cb cy) (q1 : g_on ax ay bx b cx cy = true → Q 1) (q0 : g_on ax ay bx b cx cy = false → Q 0) : WX11_isOn ax ay bx b cx cy M Q := by
  obtain ⟨m1, m2⟩ := s_turnb h1 h2 h3 h4 h5 h6
  unfold s_cb at *
  have off : ¬ (g_turn ax ay bx b cx cy = 0 ∧ ((ax ≤ cx ∨ bx ≤ cx) ∧ (cx ≤ ax ∨ cx ≤ bx)) ∧ (ay ≤ cy ∨ b ≤ cy) ∧ (cy ≤ ay ∨ cy ≤ b)) → Q 0 := fun z => q0 (by
    cases c : g_on ax ay bx b cx cy with
    | false => rfl
    | true => exact absurd (g_on_iff.mp c) z)
  refine ⟨fun e => off ?_, fun g1 => ⟨fun e => off ?_, fun g2 => ⟨fun e => off ?_, fun g3 => ⟨fun e => off ?_, fun g4 => ?_⟩⟩⟩⟩
  · have := e_min_le (x := ax) (y := bx) (p := cx); omega
  · have := e_le_max (x := ax) (y := bx) (p := cx); omega
  · have := e_min_le (x := ay) (y := b) (p := cy); omega
  · have := e_le_max (x := ay) (y := b) (p := cy); omega
  · rw [s_w (x := bx - ax) (by omega) (by omega), s_w (x := cy - ay) (by omega) (by omega), s_w (x := b - ay) (by omega) (by omega), s_w (x := cx - ax) (by omega) (by omega), s_wj (x := (bx - ax) * (cy - ay)) (by omega) (by omega), s_wj (x := (b - ay) * (cx - ax)) (by omega) (by omega)]
    refine ⟨fun ne => off (fun z => ne ?_), fun e => q1 (g_on_iff.mpr ⟨?_, ⟨e_min_le.mp g1, e_le_max.mp g2⟩, e_min_le.mp g3, e_le_max.mp g4⟩)⟩
    · have := z.1; unfold g_turn at this; omega
    · unfold g_turn; omega
def g_ov (a b c d : Int) : Bool := decide (max (min a b) (min c d) < min (max a b) (max c d))
theorem e_min_eq {a b : Int} : e_min a b = min a b := by unfold e_min; rw [Int.min_def]; split <;> split <;> omega
theorem e_max_eq {a b : Int} : e_max a b = max a b := by unfold e_max; rw [Int.max_def]; split <;> split <;> omega
theorem c_overlap {M : e_M} {a b c d : Int} {Q : Int → Prop} (q1 : g_ov a b c d = true → Q 1) (q0 : g_ov a b c d = false → Q 0) : WX3_overlap a b c d M Q := by
  unfold g_ov at *
  refine ⟨fun e => q0 (decide_eq_false ?_), fun e => q1 (decide_eq_true ?_)⟩
  · rw [e_min_eq, e_max_eq, e_max_eq, e_max_eq, e_min_eq, e_min_eq] at e; omega
  · rw [e_min_eq, e_max_eq, e_max_eq, e_max_eq, e_min_eq, e_min_eq] at e; omega
theorem s_fb_cb {M : e_M} {a i : Nat} (h : s_fb (s_fig M a)) (hi : (i : Int) < M a 2) : s_cb (M (a + 1) i) ∧ s_cb (M (a + 2) i) := by
  have := s_fb_at h hi
  unfold s_cb; omega
/-- the first one that is so, or -1 -/
def g_fst (f : Nat → Bool) (n : Nat) : Int := match (List.range n).find? f with
  | some i => (i : Int)
  | none => -1
theorem g_fst_at {f : Nat → Bool} {n i : Nat} (hi : i < n) (h : f i = true) (h2 : ∀ j, j < i → f j = false) : g_fst f n = (i : Int) := by
  unfold g_fst
  have : (List.range n).find? f = some i := by
    rw [List.find?_range_eq_some]
    exact ⟨h, List.mem_range.mpr hi, fun j hj => by rw [h2 j hj]; rfl⟩
  rw [this]
theorem g_fst_no {f : Nat → Bool} {n : Nat} (h : ∀ j, j < n → f j = false) : g_fst f n = -1 := by
  unfold g_fst
  have : (List.range n).find? f = none := by
    rw [List.find?_eq_none]
    intro j hj
    rw [h j (List.mem_range.mp hj)]
    exact Bool.false_ne_true
  rw [this]
def g_strf (l : s_Fig) (px py : Int) (i : Nat) : Bool := !(decide (px = (g_pt l (g_nx l.length i)).1) && decide (py = (g_pt l (g_nx l.length i)).2)) && g_on (g_pt l i).1 (g_pt l i).2 (g_pt l (g_nx l.length i)).1 (g_pt l (g_nx l.length i)).2 px py
def g_str (l : s_Fig) (px py : Int) : Int := g_fst (g_strf l px py) l.length
theorem c_stretchOf {M : e_M} {a : Nat} {px py : Int} {Q : Int → Prop} (h : s_fok M a) (hb : s_fb (s_fig M a)) (hx : s_cb px) (hy : s_cb py) (hq : Q (g_str (s_fig M a) px py)) : WX3_stretchOf a px py M Q := by
  have hl := s_fig_len h
  obtain ⟨h0, h40⟩ := id h
  unfold g_str at hq
  generalize hf : g_strf (s_fig M a) px py = f at *
  refine s_up (P := fun d i (_ : Unit) => WX3_stretchOf_2 M Q d a px py i) (n := M a 2) (s := ()) (fun i _ => ∀ j : Nat, (j : Int) < i → f j = false) h0 (fun j hj => by omega) ?_ ?_
  · intro d _ hi
    refine ⟨fun _ => ?_, fun z => by omega⟩
    rw [g_fst_no (fun j hj => hi j (by omega))] at hq
    exact hq
  · intro d i _ g1 g2 hi ih
    refine ⟨fun z => by omega, fun _ => c_next h ⟨g1, g2⟩ ?_⟩
    have hk := g_nx_lt (n := (s_fig M a).length) (i := i.toNat) (by omega)
    have ef := (congrFun hf i.toNat).symm
    unfold g_strf at ef
    generalize hn : g_nx (s_fig M a).length i.toNat = k at *
    obtain ⟨b1, b2⟩ := s_fb_cb (i := i.toNat) hb (by omega)
    obtain ⟨b3, b4⟩ := s_fb_cb (i := k) hb (by omega)
    rw [g_pt_fig (i := i.toNat) (by omega), g_pt_fig (i := k) (by omega)] at ef
    dsimp only at ef
    have r1 : 0 ≤ i ∧ i < 40 := ⟨g1, by omega⟩
    have r2 : 0 ≤ (k : Int) ∧ (k : Int) < 40 := ⟨by omega, by omega⟩
    have ek : ((k : Int)).toNat = k := by omega
    have go : f i.toNat = false → WX3_stretchOf_87 M (WX3_stretchOf_2 M Q d) Q a px py i := by
      intro e
      show WX3_stretchOf_2 M Q d a px py (e_w32 (i + 1))
      rw [s_w (by omega) (by omega)]
      refine ih () (fun j hj => ?_)
      by_cases c : (j : Int) = i
      · rw [show j = i.toNat by omega]; exact e
      · exact hi j (by omega)
    have yes : f i.toNat = true → Q i := by
      intro e
      rw [g_fst_at (i := i.toNat) (by omega) e (fun j hj => hi j (by omega)), show (i.toNat : Int) = i by omega] at hq
      exact hq
    have p44 : ¬ (px = M (a + 1) k ∧ py = M (a + 2) k) → WX3_stretchOf_44 M (WX3_stretchOf_2 M Q d) Q a px py i k 0 := by
      intro ne
      refine ⟨fun z => absurd rfl z, fun _ => ⟨r1, r1, r2, r2, ?_⟩⟩
      rw [ek]
      refine c_isOn b1 b2 b3 b4 hx hy (fun e => ⟨fun z => by omega, fun _ => yes ?_⟩) (fun e => ⟨fun _ => go ?_, fun z => absurd rfl z⟩)
      · rw [ef, e]; simp; omega
      · rw [ef, e]; simp
    refine ⟨r2, ?_⟩
    rw [ek]
    refine ⟨fun ne => p44 (fun z => ne z.1), fun e1 => ⟨r2, fun ne => p44 (fun z => ne z.2), fun e2 => ⟨fun _ => go ?_, fun z => by omega⟩⟩⟩
    rw [ef, e1, e2]; simp
def g_nrs (ax ay bx b cx cy dx dy : Int) : Bool := (decide (g_turn ax ay bx b cx cy = 0) && decide (g_turn ax ay bx b dx dy = 0)) && (g_ov ax bx cx dx || g_ov ay b cy dy)
def g_nrf (l m : s_Fig) (i k : Nat) : Bool := g_nrs (g_pt l i).1 (g_pt l i).2 (g_pt l (g_nx l.length i)).1 (g_pt l (g_nx l.length i)).2 (g_pt m k).1 (g_pt m k).2 (g_pt m (g_nx m.length k)).1 (g_pt m (g_nx m.length k)).2
theorem c_isNear {M : e_M} {a b : Nat} {Q : Int → Prop} (ha : s_fok M a) (hb : s_fok M b) (fa : s_fb (s_fig M a)) (fb : s_fb (s_fig M b)) (q1 : (∃ i k, i < (s_fig M a).length ∧ k < (s_fig M b).length ∧ g_nrf (s_fig M a) (s_fig M b) i k = true) → Q 1) (q0 : (∀ i k, i < (s_fig M a).length → k < (s_fig M b).length → g_nrf (s_fig M a) (s_fig M b) i k = false) → Q 0) : WX3_isNear a b M Q := by
  have la := s_fig_len ha
  have lb := s_fig_len hb
  obtain ⟨ha0, ha40⟩ := id ha
  obtain ⟨hb0, hb40⟩ := id hb
  generalize hf : g_nrf (s_fig M a) (s_fig M b) = f at *
  refine s_up (P := fun d i (_ : Unit) => WX3_isNear_2 M Q d a b i) (n := M a 2) (s := ()) (fun i _ => ∀ j k : Nat, (j : Int) < i → k < (s_fig M b).length → f j k = false) ha0 (fun j k hj => by omega) ?_ ?_
  · intro d _ hi
    exact ⟨fun _ => q0 (fun i k h1 h2 => hi i k (by omega) h2), fun z => by omega⟩
  · intro d i _ g1 g2 hi ih
    refine ⟨fun z => by omega, fun _ => c_next ha ⟨g1, g2⟩ ?_⟩
    have hk := g_nx_lt (n := (s_fig M a).length) (i := i.toNat) (by omega)
    have pi := g_pt_fig (M := M) (a := a) (i := i.toNat) (by omega)
    have pk := g_pt_fig (M := M) (a := a) (i := g_nx (s_fig M a).length i.toNat) (by omega)
    have ef := fun k => (congrFun (congrFun hf i.toNat) k).symm
    unfold g_nrf at ef
    rw [pi, pk] at ef
    generalize hn : g_nx (s_fig M a).length i.toNat = i' at *
    obtain ⟨b1, b2⟩ := s_fb_cb (i := i.toNat) fa (by omega)
    obtain ⟨b3, b4⟩ := s_fb_cb (i := i') fa (by omega)
    have r1 : 0 ≤ i ∧ i < 40 := ⟨g1, by omega⟩
    have r2 : 0 ≤ (i' : Int) ∧ (i' : Int) < 40 := ⟨by omega, by omega⟩
    refine s_up (P := fun d2 k (_ : Unit) => WX3_isNear_19 M (WX3_isNear_2 M Q d) Q d2 a b i i' k) (n := M b 2) (s := ()) (fun k _ => ∀ j : Nat, (j : Int) < k → f i.toNat j = false) hb0 (fun j hj => by omega) ?_ ?_
    · intro d2 _ hk2
      refine ⟨fun _ => ?_, fun z => by omega⟩
      rw [s_w (by omega) (by omega)]
      refine ih () (fun j k hj hk3 => ?_)
      by_cases c : (j : Int) = i
      · rw [show j = i.toNat by omega]; exact hk2 k (by omega)
      · exact hi j k (by omega) hk3
    · intro d2 k _ k1 k2 hk2 ih2
      refine ⟨fun z => by omega, fun _ => c_next hb ⟨k1, k2⟩ ?_⟩
      have hk' := g_nx_lt (n := (s_fig M b).length) (i := k.toNat) (by omega)
      have e := ef k.toNat
      rw [g_pt_fig (M := M) (a := b) (i := k.toNat) (by omega), g_pt_fig (M := M) (a := b) (i := g_nx (s_fig M b).length k.toNat) (by omega)] at e
      generalize hn2 : g_nx (s_fig M b).length k.toNat = k' at *
      obtain ⟨c1, c2⟩ := s_fb_cb (i := k.toNat) fb (by omega)
      obtain ⟨c3, c4⟩ := s_fb_cb (i := k') fb (by omega)
      have r3 : 0 ≤ k ∧ k < 40 := ⟨k1, by omega⟩
      have r4 : 0 ≤ (k' : Int) ∧ (k' : Int) < 40 := ⟨by omega, by omega⟩
      have go : f i.toNat k.toNat = false → WX3_isNear_206 M (WX3_isNear_2 M Q d) (WX3_isNear_19 M (WX3_isNear_2 M Q d) Q d2) Q a b i i' k := by
        intro e
        show WX3_isNear_19 M (WX3_isNear_2 M Q d) Q d2 a b i i' (e_w32 (k + 1))
        rw [s_w (by omega) (by omega)]
        refine ih2 () (fun j hj => ?_)
        by_cases c : (j : Int) = k
        · rw [show j = k.toNat by omega]; exact e
        · exact hk2 j (by omega)
      have yes : f i.toNat k.toNat = true → Q 1 := fun e => q1 ⟨i.toNat, k.toNat, by omega, by omega, e⟩
      have no : f i.toNat k.toNat = false → WX3_isNear_133 M (WX3_isNear_2 M Q d) (WX3_isNear_19 M (WX3_isNear_2 M Q d) Q d2) Q a b i i' k k' 0 := fun e => ⟨fun _ => go e, fun z => absurd rfl z⟩
      unfold g_nrs at e
      dsimp only at e
      refine ⟨r1, r1, r2, r2, r3, r3, ?_⟩
      rw [show ((i' : Int)).toNat = i' by omega]
      refine c_turn b1 b2 b3 b4 c1 c2 ⟨fun ne => no ?_, fun e1 => ⟨r1, r1, r2, r2, r4, r4, ?_⟩⟩
      · rw [e, decide_eq_false ne]; simp
      rw [show ((k' : Int)).toNat = k' by omega]
      refine c_turn b1 b2 b3 b4 c3 c4 ⟨fun ne => no ?_, fun e2 => ⟨fun z => by omega, fun _ => ⟨r1, r2, r3, r4, ?_⟩⟩⟩
      · rw [e, decide_eq_false ne]; simp
      rw [show ((i' : Int)).toNat = i' by omega, show ((k' : Int)).toNat = k' by omega]
      rw [e1, e2] at e
      refine c_overlap (fun o1 => ⟨fun _ => yes ?_, fun z => by omega⟩) (fun o1 => ⟨fun z => absurd rfl z, fun _ => ⟨r1, r2, r3, r4, ?_⟩⟩)
      · rw [e, o1]; simp
      refine c_overlap (fun o2 => ⟨fun z => by omega, fun _ => yes ?_⟩) (fun o2 => ⟨fun _ => go ?_, fun z => absurd rfl z⟩)
      · rw [e, o1, o2]; simp
      · rw [e, o1, o2]; simp
/-! DEEDS -/
def s_dnm (M : e_M) (d : Nat) : List (Int × Int) := s_ar (fun k => (M (d + 1) k, M (d + 2) k)) (M d 7)
def s_dpt (M : e_M) (d : Nat) : List (Int × Int) := s_ar (fun k => (M (d + 3) k, M (d + 4) k)) (M d 15)
def s_dps (M : e_M) (d : Nat) : List (Int × Int) := s_ar (fun k => (M (d + 5) k, M (d + 6) k)) (M d 18)
def s_dok (M : e_M) (d : Nat) : Prop := (0 ≤ M d 7 ∧ M d 7 ≤ 8) ∧ (0 ≤ M d 15 ∧ M d 15 ≤ 6) ∧ 0 ≤ M d 18 ∧ M d 18 ≤ 12
theorem s_dnm_at {M : e_M} {d i : Nat} (h : (i : Int) < M d 7) : (s_dnm M d)[i]? = some (M (d + 1) i, M (d + 2) i) := s_ar_get (f := fun k => (M (d + 1) k, M (d + 2) k)) (by omega)
theorem s_dpt_at {M : e_M} {d i : Nat} (h : (i : Int) < M d 15) : (s_dpt M d)[i]? = some (M (d + 3) i, M (d + 4) i) := s_ar_get (f := fun k => (M (d + 3) k, M (d + 4) k)) (by omega)
theorem s_dps_at {M : e_M} {d i : Nat} (h : (i : Int) < M d 18) : (s_dps M d)[i]? = some (M (d + 5) i, M (d + 6) i) := s_ar_get (f := fun k => (M (d + 5) k, M (d + 6) k)) (by omega)
theorem s_dnm_len {M : e_M} {d : Nat} (h : s_dok M d) : ((s_dnm M d).length : Int) = M d 7 := by unfold s_dnm; rw [s_ar_len]; have := h.1; omega
theorem s_dpt_len {M : e_M} {d : Nat} (h : s_dok M d) : ((s_dpt M d).length : Int) = M d 15 := by unfold s_dpt; rw [s_ar_len]; have := h.2.1; omega
theorem s_dps_len {M : e_M} {d : Nat} (h : s_dok M d) : ((s_dps M d).length : Int) = M d 18 := by unfold s_dps; rw [s_ar_len]; have := h.2.2; omega
theorem c_holdsAny {M : e_M} {a d : Nat} {Q : Int → Prop} (ha : s_fok M a) (fa : s_fb (s_fig M a)) (hd : s_dok M d) (pd : ∀ q ∈ s_dps M d, s_cb q.1 ∧ s_cb q.2) (q1 : (∃ q ∈ s_dps M d, g_where (s_fig M a) q.1 q.2 1 ≠ 0) → Q 1) (q0 : (∀ q ∈ s_dps M d, g_where (s_fig M a) q.1 q.2 1 = 0) → Q 0) : WX3_holdsAny a d M Q := by
  obtain ⟨g0, g12⟩ := hd.2.2
  refine s_up (P := fun n i (_ : Unit) => WX3_holdsAny_2 M Q n a d i) (n := M d 18) (s := ()) (fun i _ => ∀ j : Nat, (j : Int) < i → g_where (s_fig M a) (M (d + 5) j) (M (d + 6) j) 1 = 0) g0 (fun j hj => by omega) ?_ ?_
  · intro n _ hi
    refine ⟨fun _ => q0 (fun q hq => ?_), fun z => by omega⟩
    obtain ⟨j, hj, e⟩ := s_ar_mem.mp hq
    rw [← e]
    exact hi j (by omega)
  · intro n i _ g1 g2 hi ih
    have hm := List.mem_of_getElem? (s_dps_at (M := M) (d := d) (i := i.toNat) (by omega))
    obtain ⟨p1, p2⟩ := pd _ hm
    dsimp only at p1 p2
    unfold s_cb at p1 p2
    refine ⟨fun z => by omega, fun _ => ⟨⟨g1, by omega⟩, ⟨g1, by omega⟩, c_where ha fa (by omega) (by omega) (by omega) ⟨fun e => ?_, fun ne => q1 ⟨_, hm, ne⟩⟩⟩⟩
    rw [s_w (by omega) (by omega)]
    refine ih () (fun j hj => ?_)
    by_cases c : (j : Int) = i
    · rw [show j = i.toNat by omega]; exact e
    · exact hi j (by omega)
theorem c_tells {M : e_M} {d : Nat} {x : Int} {Q : Int → Prop} (hd : s_dok M d) (q1 : (∃ q ∈ s_dnm M d, q.1 = x) → Q 1) (q0 : (∀ q ∈ s_dnm M d, q.1 ≠ x) → Q 0) : WX2_tells d x M Q := by
  obtain ⟨g0, g12⟩ := hd.1
  refine s_up (P := fun n i (_ : Unit) => WX2_tells_2 M Q n d x i) (n := M d 7) (s := ()) (fun i _ => ∀ j : Nat, (j : Int) < i → M (d + 1) j ≠ x) g0 (fun j hj => by omega) ?_ ?_
  · intro n _ hi
    refine ⟨fun _ => q0 (fun q hq => ?_), fun z => by omega⟩
    obtain ⟨j, hj, e⟩ := s_ar_mem.mp hq
    rw [← e]
    exact hi j (by omega)
  · intro n i _ g1 g2 hi ih
    refine ⟨fun z => by omega, fun _ => ⟨⟨g1, by omega⟩, fun ne => ?_, fun e => q1 ⟨_, List.mem_of_getElem? (s_dnm_at (M := M) (d := d) (i := i.toNat) (by omega)), e⟩⟩⟩
    rw [s_w (by omega) (by omega)]
    refine ih () (fun j hj => ?_)
    by_cases c : (j : Int) = i
    · rw [show j = i.toNat by omega]; exact ne
    · exact hi j (by omega)
theorem c_isToldBefore {M : e_M} {d : Nat} {k : Int} {Q : Int → Prop} (hd : s_dok M d) (hk : 0 ≤ k ∧ k < M d 7) (q1 : (∃ j : Nat, (j : Int) < k ∧ M (d + 1) j = M (d + 1) k.toNat) → Q 1) (q0 : (∀ j : Nat, (j : Int) < k → M (d + 1) j ≠ M (d + 1) k.toNat) → Q 0) : WX2_isToldBefore d k M Q := by
  obtain ⟨g0, g12⟩ := hd.1
  refine s_up (P := fun n i (_ : Unit) => WX2_isToldBefore_2 M Q n d k i) (n := k) (s := ()) (fun i _ => ∀ j : Nat, (j : Int) < i → M (d + 1) j ≠ M (d + 1) k.toNat) hk.1 (fun j hj => by omega) ?_ ?_
  · intro n _ hi
    exact ⟨fun _ => q0 hi, fun z => by omega⟩
  · intro n i _ g1 g2 hi ih
    refine ⟨fun z => by omega, fun _ => ⟨⟨g1, by omega⟩, ⟨hk.1, by omega⟩, fun ne => ?_, fun e => q1 ⟨i.toNat, by omega, e⟩⟩⟩
    rw [s_w (by omega) (by omega)]
    refine ih () (fun j hj => ?_)
    by_cases c : (j : Int) = i
    · rw [show j = i.toNat by omega]; exact ne
    · exact hi j (by omega)
