/-! FIGURES: points in order; the class's Figure -/
abbrev s_Fig : Type := List (Int × Int)
def s_fig (M : e_M) (a : Nat) : s_Fig := s_ar (fun k => (M (a + 1) k, M (a + 2) k)) (M a 2)
def s_fok (M : e_M) (a : Nat) : Prop := 0 ≤ M a 2 ∧ M a 2 ≤ 40
theorem s_fig_len {M : e_M} {a : Nat} (h : s_fok M a) : ((s_fig M a).length : Int) = M a 2 := by unfold s_fig; rw [s_ar_len]; have := h.1; omega
theorem s_fig_at {M : e_M} {a i : Nat} (h : (i : Int) < M a 2) : (s_fig M a)[i]? = some (M (a + 1) i, M (a + 2) i) := s_ar_get (f := fun k => (M (a + 1) k, M (a + 2) k)) (by omega)
theorem s_fig_congr {M M' : e_M} {a : Nat} (h1 : M' a 2 = M a 2) (h2 : M' (a + 1) = M (a + 1)) (h3 : M' (a + 2) = M (a + 2)) : s_fig M' a = s_fig M a := by unfold s_fig; rw [h1, h2, h3]
/-- within the LAND -/
def s_fb (l : s_Fig) : Prop := ∀ q ∈ l, (0 ≤ q.1 ∧ q.1 ≤ 1000) ∧ 0 ≤ q.2 ∧ q.2 ≤ 1000
theorem s_fb_at {M : e_M} {a i : Nat} (h : s_fb (s_fig M a)) (hi : (i : Int) < M a 2) : (0 ≤ M (a + 1) i ∧ M (a + 1) i ≤ 1000) ∧ 0 ≤ M (a + 2) i ∧ M (a + 2) i ≤ 1000 := h _ (List.mem_of_getElem? (s_fig_at hi))
def g_pt (l : s_Fig) (i : Nat) : Int × Int := (l[i]?).getD (0, 0)
theorem g_pt_fig {M : e_M} {a i : Nat} (h : (i : Int) < M a 2) : g_pt (s_fig M a) i = (M (a + 1) i, M (a + 2) i) := by unfold g_pt; rw [s_fig_at h]; rfl
/-- the corner behind another -/
def g_nx (n i : Nat) : Nat := if i + 1 < n then i + 1 else 0
def g_turn (ax ay bx by_ cx cy : Int) : Int := (bx - ax) * (cy - ay) - (by_ - ay) * (cx - ax)
def g_bt (a b p : Int) : Bool := (decide (a ≤ p) || decide (b ≤ p)) && (decide (p ≤ a) || decide (p ≤ b))
theorem g_bt_iff {a b p : Int} : g_bt a b p = true ↔ (a ≤ p ∨ b ≤ p) ∧ (p ≤ a ∨ p ≤ b) := by unfold g_bt; simp
def g_on (ax ay bx by_ px py : Int) : Bool := decide (g_turn ax ay bx by_ px py = 0) && (g_bt ax bx px && g_bt ay by_ py)
theorem g_on_iff {ax ay bx by_ px py : Int} : g_on ax ay bx by_ px py = true ↔ g_turn ax ay bx by_ px py = 0 ∧ ((ax ≤ px ∨ bx ≤ px) ∧ (px ≤ ax ∨ px ≤ bx)) ∧ (ay ≤ py ∨ by_ ≤ py) ∧ (py ≤ ay ∨ py ≤ by_) := by
  unfold g_on
  rw [Bool.and_eq_true, Bool.and_eq_true, g_bt_iff, g_bt_iff, decide_eq_true_iff]
def g_cr (ax ay bx by_ px py : Int) : Bool := (decide (py < ay) != decide (py < by_)) && (if ay < by_ then decide (0 < g_turn ax ay bx by_ px py) else decide (g_turn ax ay bx by_ px py < 0))
def g_any (f : Nat → Bool) : Nat → Bool
  | 0 => false
  | k + 1 => g_any f k || f k
def g_par (f : Nat → Bool) : Nat → Bool
  | 0 => false
  | k + 1 => g_par f k != f k
theorem g_any_iff {f : Nat → Bool} : ∀ {n : Nat}, g_any f n = true ↔ ∃ i, i < n ∧ f i = true
  | 0 => ⟨fun h => (by cases h), fun ⟨i, h, _⟩ => by omega⟩
  | n + 1 => by
    show (g_any f n || f n) = true ↔ _
    rw [Bool.or_eq_true, g_any_iff (n := n)]
    constructor
    · rintro (⟨i, h, e⟩ | e)
      · exact ⟨i, by omega, e⟩
      · exact ⟨n, by omega, e⟩
    · rintro ⟨i, h, e⟩
      by_cases hi : i = n
      · right; rw [← hi]; exact e
      · exact Or.inl ⟨i, by omega, e⟩
/-- what is said of the stretch from the i-th corner on -/
def g_ed (l : s_Fig) (sc : Int) (F : Int → Int → Int → Int → Bool) (i : Nat) : Bool := F ((g_pt l i).1 * sc) ((g_pt l i).2 * sc) ((g_pt l (g_nx l.length i)).1 * sc) ((g_pt l (g_nx l.length i)).2 * sc)
/-- where a point is: 1 on the border, 2 in, 0 out -/
def g_where (l : s_Fig) (px py sc : Int) : Int :=
  if g_any (g_ed l sc (fun ax ay bx b => g_on ax ay bx b px py)) l.length = true then 1 else if g_par (g_ed l sc (fun ax ay bx b => g_cr ax ay bx b px py)) l.length = true then 2 else 0
theorem c_next {M : e_M} {a : Nat} {i : Int} {Q : Int → Prop} (h : s_fok M a) (hi : 0 ≤ i ∧ i < M a 2) (hq : Q (g_nx (s_fig M a).length i.toNat : Nat)) : WX3_next a i M Q := by
  have hl := s_fig_len h
  have h8 := h.2
  unfold g_nx at hq
  have w : e_w32 (i + 1) = i + 1 := s_w (by omega) (by omega)
  refine ⟨fun e => ?_, fun e => ?_⟩
  · rw [w] at e
    rw [if_neg (by omega)] at hq
    exact hq
  · rw [w] at e ⊢
    rw [if_pos (by omega)] at hq
    rw [show ((i.toNat + 1 : Nat) : Int) = i + 1 by omega] at hq
    exact hq
theorem g_nx_lt {n i : Nat} (h : i < n) : g_nx n i < n := by unfold g_nx; split <;> omega
theorem e_min_le {x y p : Int} : e_min x y ≤ p ↔ x ≤ p ∨ y ≤ p := by unfold e_min; split <;> omega
theorem e_le_max {x y p : Int} : p ≤ e_max x y ↔ p ≤ x ∨ p ≤ y := by unfold e_max; split <;> omega
theorem s_mulb {x y A B : Int} (h1 : -A ≤ x) (h2 : x ≤ A) (h3 : -B ≤ y) (h4 : y ≤ B) (hA : 0 ≤ A) (hB : 0 ≤ B) : -(A * B) ≤ x * y ∧ x * y ≤ A * B := by
  have k : (x * y).natAbs ≤ (A * B).natAbs := by
    rw [Int.natAbs_mul, Int.natAbs_mul]
    exact Nat.mul_le_mul (by omega) (by omega)
  have h0 := Int.mul_nonneg hA hB
  omega
theorem c_where {M : e_M} {a : Nat} {px py sc : Int} {Q : Int → Prop} (h : s_fok M a) (hb : s_fb (s_fig M a)) (hx : -8589934592 ≤ px ∧ px ≤ 8589934592) (hy : -8589934592 ≤ py ∧ py ≤ 8589934592) (hs : 0 ≤ sc ∧ sc ≤ 2) (hq : Q (g_where (s_fig M a) px py sc)) : WX3_where a px py sc M Q := by
  have hl := s_fig_len h
  obtain ⟨h0, h40⟩ := id h
  generalize hF : g_ed (s_fig M a) sc (fun ax ay bx b => g_on ax ay bx b px py) = F at *
  generalize hG : g_ed (s_fig M a) sc (fun ax ay bx b => g_cr ax ay bx b px py) = G at *
  unfold g_where at hq
  rw [hF, hG] at hq
  have key : ∀ (d : Nat) (i : Int), 0 ≤ i → i ≤ M a 2 → M a 2 - i = d → (∀ j : Nat, (j : Int) < i → F j = false) → WX3_where_6 M Q (d + 1) a px py sc (if g_par G i.toNat = true then 1 else 0) i := by
    intro d
    induction d with
    | zero =>
      intro i i1 i2 i3 i4
      have en : i.toNat = (s_fig M a).length := by omega
      rw [if_neg (fun e => by
        obtain ⟨j, j1, j2⟩ := g_any_iff.mp e
        rw [i4 j (by omega)] at j2
        cases j2), ← en] at hq
      refine ⟨fun _ => ⟨fun e => ?_, fun e => ?_⟩, fun z => by omega⟩
      · rw [if_neg (fun z => by rw [if_pos z] at e; omega)] at hq; exact hq
      · rw [if_pos (by
          by_cases z : g_par G i.toNat = true
          · exact z
          · rw [if_neg z] at e; exact absurd rfl e)] at hq; exact hq
    | succ d ih =>
      intro i i1 i2 i3 i4
      refine ⟨fun z => by omega, fun _ => c_next h ⟨i1, by omega⟩ ?_⟩
      have hk := g_nx_lt (n := (s_fig M a).length) (i := i.toNat) (by omega)
      generalize hn : g_nx (s_fig M a).length i.toNat = k at *
      obtain ⟨b1, b2⟩ := s_fb_at (i := i.toNat) hb (by omega)
      obtain ⟨b3, b4⟩ := s_fb_at (i := k) hb (by omega)
      have r1 : 0 ≤ i ∧ i < 40 := ⟨i1, by omega⟩
      have r2 : 0 ≤ (k : Int) ∧ (k : Int) < 40 := ⟨by omega, by omega⟩
      have m1 := s_mulB b1.1 b1.2 hs.1 hs.2
      have m2 := s_mulB b2.1 b2.2 hs.1 hs.2
      have m3 := s_mulB b3.1 b3.2 hs.1 hs.2
      have m4 := s_mulB b4.1 b4.2 hs.1 hs.2
      have ek : (k : Int).toNat = k := by omega
      refine ⟨r1, fun y2 e2 => ⟨r1, fun y3 e3 => ⟨r2, fun y4 e4 => ⟨r2, fun y5 e5 => fun y6 e6 => ?_⟩⟩⟩⟩
      rw [ek] at e4 e5
      rw [s_wj (by omega) (by omega)] at e2 e3 e4 e5
      have n1 := s_mulb (x := y4 - y2) (y := py - y3) (A := 2000) (B := 17179869184) (by omega) (by omega) (by omega) (by omega) (by omega) (by omega)
      have n2 := s_mulb (x := y5 - y3) (y := px - y2) (A := 2000) (B := 17179869184) (by omega) (by omega) (by omega) (by omega) (by omega) (by omega)
      rw [s_wj (x := y4 - y2) (by omega) (by omega), s_wj (x := py - y3) (by omega) (by omega), s_wj (x := y5 - y3) (by omega) (by omega), s_wj (x := px - y2) (by omega) (by omega), s_wj (x := (y4 - y2) * (py - y3)) (by omega) (by omega), s_wj (x := (y5 - y3) * (px - y2)) (by omega) (by omega), s_wj (by omega) (by omega)] at e6
      have p1 : g_pt (s_fig M a) i.toNat = (M (a + 1) i.toNat, M (a + 2) i.toNat) := g_pt_fig (by omega)
      have p2 : g_pt (s_fig M a) k = (M (a + 1) k, M (a + 2) k) := g_pt_fig (by omega)
      have eF : F i.toNat = g_on y2 y3 y4 y5 px py := by
        rw [← hF]
        unfold g_ed
        rw [hn, p1, p2, e2, e3, e4, e5]
      have eG : G i.toNat = g_cr y2 y3 y4 y5 px py := by
        rw [← hG]
        unfold g_ed
        rw [hn, p1, p2, e2, e3, e4, e5]
      have et : y6 = g_turn y2 y3 y4 y5 px py := e6
      have on : g_on y2 y3 y4 y5 px py = true → Q 1 := fun e => by
        rw [if_pos (g_any_iff.mpr ⟨i.toNat, by omega, by rw [eF]; exact e⟩)] at hq
        exact hq
      have cont : g_on y2 y3 y4 y5 px py = false → WX3_where_159 M (WX3_where_6 M Q (d + 1)) Q a px py sc (if g_par G i.toNat = true then 1 else 0) i y3 y5 y6 := by
        intro off
        have ihn := ih (i + 1) (by omega) (by omega) (by omega) (fun j hj => by
          by_cases e : (j : Int) = i
          · rw [show j = i.toNat by omega, eF]; exact off
          · exact i4 j (by omega))
        rw [show (i + 1).toNat = i.toNat + 1 by omega] at ihn
        replace ihn : WX3_where_6 M Q (d + 1) a px py sc (if (g_par G i.toNat != G i.toNat) = true then 1 else 0) (i + 1) := ihn
        have skip : G i.toNat = false → WX3_where_235 M (WX3_where_6 M Q (d + 1)) Q a px py sc (if g_par G i.toNat = true then 1 else 0) i := fun e => by
          show WX3_where_6 M Q (d + 1) a px py sc _ (e_w32 (i + 1))
          rw [s_w (by omega) (by omega)]
          rw [e, Bool.bne_false] at ihn
          exact ihn
        have flip : G i.toNat = true → WX3_where_223 M (WX3_where_6 M Q (d + 1)) Q a px py sc (if g_par G i.toNat = true then 1 else 0) i := fun e => by
          rw [e, Bool.bne_true] at ihn
          refine ⟨fun z => ?_, fun z => ?_⟩
          · show WX3_where_6 M Q (d + 1) a px py sc 0 (e_w32 (i + 1))
            rw [s_w (by omega) (by omega)]
            have : g_par G i.toNat = true := by
              by_cases c : g_par G i.toNat = true
              · exact c
              · rw [if_neg c] at z; exact absurd rfl z
            rw [this] at ihn
            exact ihn
          · show WX3_where_6 M Q (d + 1) a px py sc 1 (e_w32 (i + 1))
            rw [s_w (by omega) (by omega)]
            have : g_par G i.toNat = false := by
              cases c : g_par G i.toNat with
              | false => rfl
              | true => rw [c, if_pos rfl] at z; omega
            rw [this] at ihn
            exact ihn
        have tail : ∀ t : Int, (t = 0 ↔ decide (py < y3) = decide (py < y5)) → WX3_where_191 M (WX3_where_6 M Q (d + 1)) Q a px py sc (if g_par G i.toNat = true then 1 else 0) i y3 y5 y6 t := by
          intro t ht
          unfold g_cr at eG
          rw [← et] at eG
          refine ⟨fun e => skip ?_, fun e => ⟨fun c => ⟨fun c2 => skip ?_, fun c2 => flip ?_⟩, fun c => ⟨fun c2 => skip ?_, fun c2 => flip ?_⟩⟩⟩
          · rw [eG, ht.mp e]; simp
          · rw [eG, if_neg (by omega), show decide (y6 < 0) = false from decide_eq_false (by omega), Bool.and_false]
          · rw [eG, if_neg (by omega), show decide (y6 < 0) = true from decide_eq_true (by omega), Bool.and_true, bne_iff_ne]
            exact fun z => e (ht.mpr z)
          · rw [eG, if_pos (by omega), show decide (0 < y6) = false from decide_eq_false (by omega), Bool.and_false]
          · rw [eG, if_pos (by omega), show decide (0 < y6) = true from decide_eq_true (by omega), Bool.and_true, bne_iff_ne]
            exact fun z => e (ht.mpr z)
        have s183 : ∀ u v : Int, (u = if py < y5 then 1 else 0) → (v = if py < y3 then 1 else 0) → WX3_where_183 M (WX3_where_6 M Q (d + 1)) Q a px py sc (if g_par G i.toNat = true then 1 else 0) i y3 y5 y6 u v := by
          intro u v hu hv
          refine ⟨fun e => tail 0 ⟨fun _ => ?_, fun _ => rfl⟩, fun e => tail 1 ⟨fun z => by omega, fun z => ?_⟩⟩
          · by_cases c1 : py < y5 <;> by_cases c2 : py < y3 <;> simp only [c1, c2, if_true, if_false] at hu hv <;> simp [c1, c2] <;> omega
          · exfalso
            by_cases c1 : py < y5 <;> by_cases c2 : py < y3 <;> simp only [c1, c2, if_true, if_false] at hu hv <;> simp [c1, c2] at z <;> omega
        refine ⟨fun c => ⟨fun c2 => s183 0 0 ?_ ?_, fun c2 => s183 1 0 ?_ ?_⟩, fun c => ⟨fun c2 => s183 0 1 ?_ ?_, fun c2 => s183 1 1 ?_ ?_⟩⟩
        · rw [if_neg (by omega)]
        · rw [if_neg (by omega)]
        · rw [if_pos (by omega)]
        · rw [if_neg (by omega)]
        · rw [if_neg (by omega)]
        · rw [if_pos (by omega)]
        · rw [if_pos (by omega)]
        · rw [if_pos (by omega)]
      have off : ¬ (g_turn y2 y3 y4 y5 px py = 0 ∧ ((y2 ≤ px ∨ y4 ≤ px) ∧ (px ≤ y2 ∨ px ≤ y4)) ∧ (y3 ≤ py ∨ y5 ≤ py) ∧ (py ≤ y3 ∨ py ≤ y5)) → g_on y2 y3 y4 y5 px py = false := fun z => by
        cases c : g_on y2 y3 y4 y5 px py with
        | false => rfl
        | true => exact absurd (g_on_iff.mp c) z
      have q1 := e_min_le (x := y2) (y := y4) (p := px)
      have q2 := e_le_max (x := y2) (y := y4) (p := px)
      have q3 := e_min_le (x := y3) (y := y5) (p := py)
      have q4 := e_le_max (x := y3) (y := y5) (p := py)
      refine ⟨fun z => cont (off (fun w => z (by rw [et]; exact w.1))), fun z => ⟨fun c => cont (off (fun w => by have := q1.mpr w.2.1.1; omega)), fun c => ⟨fun c2 => cont (off (fun w => by have := q2.mpr w.2.1.2; omega)), fun c2 => ⟨fun c3 => cont (off (fun w => by have := q3.mpr w.2.2.1; omega)), fun c3 => ⟨fun c4 => cont (off (fun w => by have := q4.mpr w.2.2.2; omega)), fun c4 => on (g_on_iff.mpr ⟨by rw [← et]; exact z, ⟨q1.mp c, q2.mp c2⟩, q3.mp c3, q4.mp c4⟩)⟩⟩⟩⟩⟩
  exact ⟨(M a 2).toNat + 1, key (M a 2).toNat 0 (by omega) (by omega) (by omega) (fun j hj => by omega)⟩
