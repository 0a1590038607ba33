/-! geometry: FIGURES as ways round -/
/-! FIGURES as ways round -/
theorem gt_pe_len : ∀ {a : gt_P} {l : List gt_P}, (gt_pe a l).length = l.length
  | _, [] => rfl
  | _, b :: l => by
    show (gt_pe b l).length + 1 = l.length + 1
    rw [gt_pe_len]
theorem gt_pe_at : ∀ {a : gt_P} {l : List gt_P} {i : Nat} (h : i < l.length), (gt_pe a l)[i]? = some ((a :: l)[i]?.getD (0, 0), l[i]?.getD (0, 0))
  | a, b :: l, 0, _ => rfl
  | a, b :: l, i + 1, h => by
    have : i < l.length := by rw [List.length_cons] at h; omega
    show (gt_pe b l)[i]? = some ((b :: l)[i]?.getD (0, 0), l[i]?.getD (0, 0))
    exact gt_pe_at this
theorem gt_ed_len {F : List gt_P} : (gt_ed F).length = F.length := by
  cases F with
  | nil => rfl
  | cons v r =>
    show (gt_pe v (r ++ [v])).length = _
    rw [gt_pe_len]; simp
theorem gt_ed_at {F : s_Fig} {i : Nat} (h : i < F.length) : (gt_ed F)[i]? = some (g_pt F i, g_pt F (g_nx F.length i)) := by
  cases F with
  | nil => cases h
  | cons v r =>
    show (gt_pe v (r ++ [v]))[i]? = _
    rw [List.length_cons] at h
    rw [gt_pe_at (by simp; omega)]
    have e1 : (v :: (r ++ [v]))[i]?.getD (0, 0) = g_pt (v :: r) i := by
      unfold g_pt
      have : v :: (r ++ [v]) = (v :: r) ++ [v] := rfl
      rw [this, List.getElem?_append_left (by rw [List.length_cons]; omega)]
    have e2 : (r ++ [v])[i]?.getD (0, 0) = g_pt (v :: r) (g_nx (v :: r).length i) := by
      unfold g_pt g_nx
      rw [List.length_cons]
      by_cases c : i + 1 < r.length + 1
      · rw [if_pos c, List.getElem?_append_left (by omega)]; rfl
      · rw [if_neg c, List.getElem?_append_right (by omega), show i - r.length = 0 by omega]; rfl
    rw [e1, e2]
theorem gt_ed_i {F : s_Fig} {e : gt_E} : e ∈ gt_ed F ↔ ∃ i, i < F.length ∧ e = (g_pt F i, g_pt F (g_nx F.length i)) := by
  rw [List.mem_iff_getElem?]
  constructor
  · rintro ⟨i, hi⟩
    have : i < F.length := by
      rw [← gt_ed_len (F := F)]
      exact (List.getElem?_eq_some_iff.mp hi).1
    rw [gt_ed_at this] at hi
    exact ⟨i, this, (Option.some.inj hi).symm⟩
  · rintro ⟨i, h1, rfl⟩
    exact ⟨i, gt_ed_at h1⟩
theorem gt_sum_i {c : gt_P → gt_P → Int} {F : s_Fig} : gt_sm c (gt_ed F) = g_sum (fun i => c (g_pt F i) (g_pt F (g_nx F.length i))) F.length := by
  have e : gt_ed F = (List.range F.length).map (fun i => (g_pt F i, g_pt F (g_nx F.length i))) := by
    refine List.ext_getElem? (fun i => ?_)
    by_cases h : i < F.length
    · rw [gt_ed_at h]
      simp [h]
    · rw [List.getElem?_eq_none (by rw [gt_ed_len]; omega), List.getElem?_eq_none (by simp; omega)]
  have key : ∀ (f : Nat → Int) (n : Nat), ((List.range n).map f).sum = g_sum f n := by
    intro f n
    induction n with
    | zero => rfl
    | succ n ih =>
      rw [List.range_succ, List.map_append, List.sum_append, ih]
      show _ + (f n + 0) = g_sum f n + f n
      omega
  rw [← key, e]
  unfold gt_sm
  rw [List.map_map]; rfl
theorem gt_pt_map {F : s_Fig} {K : Int} {i : Nat} : g_pt (F.map (gt_g K)) i = gt_g K (g_pt F i) := by
  unfold g_pt
  rw [List.getElem?_map]
  cases F[i]? with
  | none =>
    show ((0 : Int), (0 : Int)) = (K * 0, K * 0)
    rw [Int.mul_zero]
  | some q => rfl
theorem gt_wn {F : s_Fig} {px py sc : Int} : g_wn F px py sc = gt_w (F.map (gt_g sc)) (px, py) := by
  rw [gt_w_sm, gt_sum_i, List.length_map]
  unfold g_wn
  have : g_csi F px py sc = fun i => gt_c (px, py) (g_pt (F.map (gt_g sc)) i) (g_pt (F.map (gt_g sc)) (g_nx F.length i)) := by
    funext i
    rw [gt_pt_map, gt_pt_map]
    unfold g_csi gt_c gt_g
    dsimp only
    rw [Int.mul_comm sc, Int.mul_comm sc, Int.mul_comm sc, Int.mul_comm sc]
  rw [this]
theorem gt_onb {F : s_Fig} {px py sc : Int} : g_any (g_ed F sc (fun ax ay bx b => g_on ax ay bx b px py)) F.length = true ↔ ∃ e ∈ gt_ed (F.map (gt_g sc)), gt_O e.1 e.2 (px, py) := by
  rw [g_any_iff]
  constructor
  · rintro ⟨i, h1, h2⟩
    refine ⟨_, gt_ed_i.mpr ⟨i, by rw [List.length_map]; exact h1, rfl⟩, ?_⟩
    rw [gt_pt_map, gt_pt_map, List.length_map]
    unfold g_ed at h2
    rw [g_on_iff] at h2
    unfold gt_O gt_on gt_g
    dsimp only
    rw [Int.mul_comm sc, Int.mul_comm sc, Int.mul_comm sc, Int.mul_comm sc]
    exact h2
  · rintro ⟨e, h1, h2⟩
    obtain ⟨i, h3, rfl⟩ := gt_ed_i.mp h1
    rw [List.length_map] at h3 h2
    refine ⟨i, h3, ?_⟩
    rw [gt_pt_map, gt_pt_map] at h2
    unfold g_ed
    rw [g_on_iff]
    unfold gt_O gt_on gt_g at h2
    dsimp only at h2
    rw [Int.mul_comm sc, Int.mul_comm sc, Int.mul_comm sc, Int.mul_comm sc] at h2
    exact h2
theorem gt_cr {ax ay bx b px py : Int} : g_cr ax ay bx b px py = true ↔ g_cs px py ax ay bx b ≠ 0 := by
  unfold g_cr g_cs
  rw [Bool.and_eq_true]
  by_cases c1 : py < ay <;> by_cases c2 : py < b
  · rw [decide_eq_true c1, decide_eq_true c2, if_neg (show ¬ ((ay ≤ py ∧ py < b) ∧ 0 < g_turn ax ay bx b px py) by omega), if_neg (show ¬ ((b ≤ py ∧ py < ay) ∧ g_turn ax ay bx b px py < 0) by omega)]
    simp
  · rw [decide_eq_true c1, decide_eq_false c2, if_neg (show ¬ ((ay ≤ py ∧ py < b) ∧ 0 < g_turn ax ay bx b px py) by omega), if_neg (show ¬ ay < b by omega)]
    by_cases t : g_turn ax ay bx b px py < 0
    · rw [if_pos (by omega)]; simp [t]
    · rw [if_neg (by omega)]; simp [t]
  · rw [decide_eq_false c1, decide_eq_true c2, if_pos (show ay < b by omega)]
    by_cases t : 0 < g_turn ax ay bx b px py
    · rw [if_pos (by omega)]; simp [t]
    · rw [if_neg (by omega), if_neg (by omega)]; simp [t]
  · rw [decide_eq_false c1, decide_eq_false c2, if_neg (show ¬ ((ay ≤ py ∧ py < b) ∧ 0 < g_turn ax ay bx b px py) by omega), if_neg (show ¬ ((b ≤ py ∧ py < ay) ∧ g_turn ax ay bx b px py < 0) by omega)]
    simp
theorem gt_par {f : Nat → Bool} {c : Nat → Int} (h : ∀ i, (f i = true ↔ c i ≠ 0) ∧ -1 ≤ c i ∧ c i ≤ 1) : ∀ n, g_par f n = true ↔ g_sum c n % 2 = 1
  | 0 => by
    show false = true ↔ (0 : Int) % 2 = 1
    simp
  | n + 1 => by
    have ih := gt_par h n
    have hn := h n
    show (g_par f n != f n) = true ↔ (g_sum c n + c n) % 2 = 1
    cases e1 : g_par f n <;> cases e2 : f n <;> rw [e1] at ih <;> rw [e2] at hn <;> simp at ih hn ⊢ <;> omega
theorem gt_par_w {F : s_Fig} {px py sc : Int} : g_par (g_ed F sc (fun ax ay bx b => g_cr ax ay bx b px py)) F.length = true ↔ gt_w (F.map (gt_g sc)) (px, py) % 2 = 1 := by
  rw [← gt_wn]
  unfold g_wn
  refine gt_par (fun i => ⟨?_, ?_⟩) _
  · unfold g_ed g_csi
    exact gt_cr
  · unfold g_csi g_cs
    constructor
    · split
      · omega
      · split <;> omega
    · split
      · omega
      · split <;> omega
/-- a FIGURE: a way round that touches itself nowhere, with the inside on the left -/
def gt_fig (F : s_Fig) : Prop := gt_smp F ∧ F ≠ [] ∧ gt_k F = 0
theorem gt_fig_w {F : s_Fig} (h : gt_fig F) {K : Int} (hK : 0 < K) (z : gt_P) : gt_w (F.map (gt_g K)) z = 0 ∨ gt_w (F.map (gt_g K)) z = 1 := by
  have := gt_jordan (gt_g_smp hK h.1) (fun e => h.2.1 (List.map_eq_nil_iff.mp e)) z
  rw [gt_g_k hK, h.2.2] at this
  exact this
theorem gt_fig_good {F : s_Fig} (h : gt_fig F) : g_good F := by
  intro px py sc hsc
  have w := gt_fig_w h (K := sc) (by omega) (px, py)
  unfold g_lie g_where
  by_cases c : g_any (g_ed F sc (fun ax ay bx b => g_on ax ay bx b px py)) F.length = true
  · rw [if_pos c, if_pos c]
  · rw [if_neg c, if_neg c, gt_wn]
    rcases w with w | w
    · rw [w, if_pos rfl, if_neg (fun z => by rw [gt_par_w, w] at z; omega)]
    · rw [w, if_neg (by decide), if_pos (by rw [gt_par_w, w]; rfl)]
theorem gt_g1 {p : gt_P} : gt_g 1 p = p := by
  unfold gt_g
  rw [Int.one_mul, Int.one_mul]
theorem gt_map1 {F : List gt_P} : F.map (gt_g 1) = F := by
  have : (gt_g 1) = id := funext (fun p => gt_g1)
  rw [this, List.map_id]
theorem gt_where1 {F : s_Fig} {px py sc : Int} : g_where F px py sc = 1 ↔ ∃ e ∈ gt_ed (F.map (gt_g sc)), gt_O e.1 e.2 (px, py) := by
  rw [← gt_onb]
  unfold g_where
  by_cases c : g_any (g_ed F sc (fun ax ay bx b => g_on ax ay bx b px py)) F.length = true
  · rw [if_pos c]; exact ⟨fun _ => c, fun _ => rfl⟩
  · rw [if_neg c]
    refine ⟨fun z => ?_, fun z => absurd z c⟩
    split at z <;> omega
theorem gt_where2 {F : s_Fig} {px py sc : Int} (h : g_where F px py sc = 2) : (¬ ∃ e ∈ gt_ed (F.map (gt_g sc)), gt_O e.1 e.2 (px, py)) ∧ gt_w (F.map (gt_g sc)) (px, py) % 2 = 1 := by
  rw [← gt_onb, ← gt_par_w]
  unfold g_where at h
  by_cases c : g_any (g_ed F sc (fun ax ay bx b => g_on ax ay bx b px py)) F.length = true
  · rw [if_pos c] at h; omega
  · rw [if_neg c] at h
    refine ⟨c, ?_⟩
    by_cases c2 : g_par (g_ed F sc (fun ax ay bx b => g_cr ax ay bx b px py)) F.length = true
    · exact c2
    · rw [if_neg c2] at h; omega
/-! a way round with more points on it -/
def gt_ref (F G : List gt_P) : Prop := gt_smp G ∧ gt_k G = gt_k F ∧ (∀ c, gt_cc c → gt_sm c (gt_ed G) = gt_sm c (gt_ed F)) ∧ (∀ f ∈ gt_ed G, ∃ g ∈ gt_ed F, gt_O g.1 g.2 f.1 ∧ gt_O g.1 g.2 f.2) ∧ ∀ p ∈ F, p ∈ G
theorem gt_ref_refl {F : List gt_P} (h : gt_smp F) : gt_ref F F := ⟨h, rfl, fun _ _ => rfl, fun f hf => ⟨f, hf, gt_O_l, gt_O_r⟩, fun _ h => h⟩
theorem gt_O_cv {a b p q x : gt_P} (h1 : gt_O a b p) (h2 : gt_O a b q) (h : gt_O p q x) : gt_O a b x := by
  have one : ∀ {p q : gt_P}, gt_O a b q → gt_O a q p → gt_O p q x → gt_O a b x := fun {p q} h2 e h => gt_O_tr h2 (gt_O_sw (gt_O_tr (gt_O_sw e) (gt_O_sw h)))
  rcases gt_O_ord h1 h2 with e | e
  · exact one h2 e h
  · exact one h1 e (gt_O_sw h)
theorem gt_ref_trans {F G H : List gt_P} (h : gt_ref F G) (k : gt_ref G H) : gt_ref F H := by
  refine ⟨k.1, k.2.1.trans h.2.1, fun c hc => (k.2.2.1 c hc).trans (h.2.2.1 c hc), fun f hf => ?_, fun p hp => k.2.2.2.2 p (h.2.2.2.2 p hp)⟩
  obtain ⟨g, g1, g2, g3⟩ := k.2.2.2.1 f hf
  obtain ⟨e, e1, e2, e3⟩ := h.2.2.2.1 g g1
  exact ⟨e, e1, gt_O_cv e2 e3 g2, gt_O_cv e2 e3 g3⟩
theorem gt_ref_rot {s t : List gt_P} (h : gt_smp (s ++ t)) : gt_ref (s ++ t) (t ++ s) := by
  refine ⟨gt_smp_rot h, gt_k_rot h, fun c _ => gt_sm_perm gt_ed_rot, fun f hf => ⟨f, gt_ed_rot.mem_iff.mp hf, gt_O_l, gt_O_r⟩, fun p hp => ?_⟩
  rcases List.mem_append.mp hp with k | k
  · exact List.mem_append.mpr (Or.inr k)
  · exact List.mem_append.mpr (Or.inl k)
theorem gt_ref_ins {v b c : gt_P} {r : List gt_P} (h : gt_smp (v :: c :: r)) (hb : gt_O v c b) (n1 : b ≠ v) (n2 : b ≠ c) : gt_ref (v :: c :: r) (v :: b :: c :: r) := by
  refine ⟨gt_ins h hb n1 n2, gt_k_ins h hb n1 n2, fun k hk => gt_sm_ins hk hb, fun f hf => ?_, fun p hp => ?_⟩
  · have hf : f ∈ (v, b) :: (b, c) :: gt_pe c (r ++ [v]) := hf
    have m1 : (v, c) ∈ gt_ed (v :: c :: r) := List.mem_cons_self ..
    rcases List.mem_cons.mp hf with k | k
    · rw [k]; exact ⟨(v, c), m1, gt_O_l, hb⟩
    · rcases List.mem_cons.mp k with k | k
      · rw [k]; exact ⟨(v, c), m1, hb, gt_O_r⟩
      · exact ⟨f, List.mem_cons_of_mem _ k, gt_O_l, gt_O_r⟩
  · rcases List.mem_cons.mp hp with k | k
    · rw [k]; exact List.mem_cons_self ..
    · exact List.mem_cons_of_mem _ (List.mem_cons_of_mem _ k)
theorem gt_ref_w {F G : List gt_P} (h : gt_ref F G) {K : Int} (hK : 0 < K) {z : gt_P} : gt_w (G.map (gt_g K)) z = gt_w (F.map (gt_g K)) z := by
  rw [gt_w_sm, gt_w_sm, gt_ed_map, gt_ed_map, gt_sm_map, gt_sm_map]
  exact h.2.2.1 _ (gt_cc_g (gt_cc_c z) hK)
/-! corners one behind another -/
def gt_run (F : s_Fig) : Nat → Nat → List gt_P
  | _, 0 => []
  | c, n + 1 => g_pt F (g_nx F.length c) :: gt_run F (g_nx F.length c) n
def gt_rc (n : Nat) : Nat → Nat → Nat
  | c, 0 => c
  | c, m + 1 => gt_rc n (g_nx n c) m
theorem gt_run_add {F : s_Fig} : ∀ {m c k : Nat}, gt_run F c (m + k) = gt_run F c m ++ gt_run F (gt_rc F.length c m) k
  | 0, _, _ => by rw [Nat.zero_add]; rfl
  | m + 1, c, k => by
    rw [show m + 1 + k = (m + k) + 1 by omega]
    show g_pt F _ :: gt_run F _ (m + k) = g_pt F _ :: (gt_run F _ m ++ gt_run F (gt_rc F.length (g_nx F.length c) m) k)
    rw [gt_run_add]
theorem gt_run_len {F : s_Fig} : ∀ {m c : Nat}, (gt_run F c m).length = m
  | 0, _ => rfl
  | m + 1, c => by
    show (gt_run F _ m).length + 1 = m + 1
    rw [gt_run_len]
theorem gt_rc_lt {n : Nat} : ∀ {m c : Nat}, c + m < n → gt_rc n c m = c + m
  | 0, _, _ => rfl
  | m + 1, c, h => by
    show gt_rc n (g_nx n c) m = _
    have : g_nx n c = c + 1 := by unfold g_nx; rw [if_pos (by omega)]
    rw [this, gt_rc_lt (by omega)]; omega
theorem gt_rc_add {n : Nat} : ∀ {m c k : Nat}, gt_rc n c (m + k) = gt_rc n (gt_rc n c m) k
  | 0, _, _ => by rw [Nat.zero_add]; rfl
  | m + 1, c, k => by
    rw [show m + 1 + k = (m + k) + 1 by omega]
    show gt_rc n (g_nx n c) (m + k) = gt_rc n (gt_rc n (g_nx n c) m) k
    rw [gt_rc_add]
theorem gt_rc_wrap {n m c : Nat} (hc : c < n) (h : n ≤ c + m) (h2 : m ≤ n) : gt_rc n c m = c + m - n := by
  obtain ⟨d, rfl⟩ : ∃ d, m = (n - 1 - c) + (1 + d) := ⟨c + m - n, by omega⟩
  have : gt_rc n (c + (n - 1 - c)) 1 = 0 := by
    show g_nx n (c + (n - 1 - c)) = 0
    unfold g_nx
    rw [if_neg (by omega)]
  rw [gt_rc_add, gt_rc_lt (m := n - 1 - c) (c := c) (by omega), gt_rc_add, this]
  by_cases c0 : d < n
  · rw [gt_rc_lt (by omega)]; omega
  · omega
theorem gt_run_drop {F : s_Fig} : ∀ {m c : Nat}, c + m < F.length → gt_run F c m = (F.drop (c + 1)).take m
  | 0, _, _ => by rw [List.take_zero]; rfl
  | m + 1, c, h => by
    have e : g_nx F.length c = c + 1 := by unfold g_nx; rw [if_pos (by omega)]
    show g_pt F (g_nx F.length c) :: gt_run F (g_nx F.length c) m = _
    rw [e, gt_run_drop (by omega), List.drop_eq_getElem_cons (show c + 1 < F.length by omega), List.take_succ_cons]
    unfold g_pt
    rw [List.getElem?_eq_getElem (by omega)]; rfl
theorem gt_run_take {F : s_Fig} (h0 : F ≠ []) : ∀ {k : Nat}, k ≤ F.length → gt_run F (F.length - 1) k = F.take k := by
  intro k hk
  have hl := List.length_pos_iff.mpr h0
  cases k with
  | zero => rfl
  | succ k =>
    have e : g_nx F.length (F.length - 1) = 0 := by unfold g_nx; rw [if_neg (by omega)]
    show g_pt F (g_nx F.length (F.length - 1)) :: gt_run F (g_nx F.length (F.length - 1)) k = _
    rw [e, gt_run_drop (by omega)]
    obtain ⟨v, r, ev⟩ := List.exists_cons_of_ne_nil h0
    rw [ev]; rfl
/-- the turn from a corner on -/
theorem gt_turn_i {F : s_Fig} {i : Nat} (h : i < F.length) : F.drop i ++ F.take i = g_pt F i :: gt_run F i (F.length - 1) := by
  have e1 : F.drop i = g_pt F i :: F.drop (i + 1) := by
    rw [List.drop_eq_getElem_cons h]
    unfold g_pt
    rw [List.getElem?_eq_getElem h]; rfl
  have h0 : F ≠ [] := fun z => by rw [z] at h; cases h
  have e2 : gt_run F i (F.length - 1) = F.drop (i + 1) ++ F.take i := by
    rw [show F.length - 1 = (F.length - 1 - i) + i by omega, gt_run_add, gt_rc_lt (by omega), show i + (F.length - 1 - i) = F.length - 1 by omega, gt_run_take h0 (by omega), gt_run_drop (by omega), List.take_of_length_le (by rw [List.length_drop]; omega)]
  rw [e1, e2]; rfl
theorem gt_run_snoc {F : s_Fig} {c m : Nat} : gt_run F c (m + 1) = gt_run F c m ++ [g_pt F (gt_rc F.length c (m + 1))] := by
  rw [gt_run_add, gt_rc_add]; rfl
theorem g_brd_S' {F : s_Fig} {q : Int × Int} {n c : Nat} : g_brd F q (n + 1) c = (if g_pt F (g_nx F.length c) = q then [] else [g_pt F (g_nx F.length c)]) ++ g_brd F q n (g_nx F.length c) := rfl
theorem gt_brd_run {F : s_Fig} {q : gt_P} : ∀ {n c : Nat}, g_brd F q n c = (gt_run F c n).filter (fun p => decide (p ≠ q))
  | 0, _ => rfl
  | n + 1, c => by
    rw [g_brd_S']
    show _ = (g_pt F (g_nx F.length c) :: gt_run F (g_nx F.length c) n).filter _
    rw [List.filter_cons, gt_brd_run]
    by_cases e : g_pt F (g_nx F.length c) = q
    · rw [if_pos e, if_neg (by simp [e])]; rfl
    · rw [if_neg e, if_pos (by simp [e])]; rfl
/-- a corner on a stretch is one of its ends -/
theorem gt_vtx {F : List gt_P} (h : gt_smp F) {u : gt_P} {e : gt_E} (hu : u ∈ F) (he : e ∈ gt_ed F) (ho : gt_O e.1 e.2 u) : u = e.1 ∨ u = e.2 := by
  have hl : F ≠ [] := fun z => by rw [z] at hu; cases hu
  have : u ∈ (gt_ed F).map Prod.fst := by rw [gt_ed_fst]; exact hu
  obtain ⟨f, hf, ef⟩ := List.mem_map.mp this
  rcases gt_sep h hl he hf with k | k | k | k
  · exact Or.inl (by rw [k, ef])
  · exact Or.inr (by rw [k.1, ef])
  · by_cases c : u = e.1
    · exact Or.inl c
    · have s := gt_spk h hl hf he k.1
      have d := gt_O_dir ho c
      rw [ef, k.1] at s
      exact absurd d s.2.2
  · exact absurd (gt_M_pt ho (by rw [ef]; exact gt_O_l)) k
theorem gt_strf {F : s_Fig} {p : gt_P} {i : Nat} : g_strf F p.1 p.2 i = true ↔ p ≠ g_pt F (g_nx F.length i) ∧ gt_O (g_pt F i) (g_pt F (g_nx F.length i)) p := by
  unfold g_strf
  rw [Bool.and_eq_true, g_on_iff]
  refine and_congr ?_ Iff.rfl
  by_cases c1 : p.1 = (g_pt F (g_nx F.length i)).1 <;> by_cases c2 : p.2 = (g_pt F (g_nx F.length i)).2
  · rw [decide_eq_true c1, decide_eq_true c2]
    simp only [Bool.and_self, Bool.not_true]
    exact ⟨fun z => (by cases z), fun z => absurd (Prod.ext c1 c2) z⟩
  · rw [decide_eq_false c2]
    simp only [Bool.and_false, Bool.not_false, true_iff]
    exact fun z => c2 (by rw [z])
  · rw [decide_eq_false c1]
    simp only [Bool.false_and, Bool.not_false, true_iff]
    exact fun z => c1 (by rw [z])
  · rw [decide_eq_false c1]
    simp only [Bool.false_and, Bool.not_false, true_iff]
    exact fun z => c1 (by rw [z])
theorem g_fst_ex {f : Nat → Bool} {n : Nat} (h : ∃ i, i < n ∧ f i = true) : ∃ i : Nat, g_fst f n = i ∧ i < n ∧ f i = true := by
  have key : ∀ m, m ≤ n → (∀ j, j < m → f j = false) ∨ ∃ i : Nat, g_fst f n = i ∧ i < n ∧ f i = true := by
    intro m
    induction m with
    | zero => exact fun _ => Or.inl (fun j hj => by omega)
    | succ m ih =>
      intro hm
      rcases ih (by omega) with k | k
      · cases e : f m with
        | true => exact Or.inr ⟨m, g_fst_at (by omega) e k, by omega, e⟩
        | false =>
          refine Or.inl (fun j hj => ?_)
          by_cases c : j = m
          · rw [c]; exact e
          · exact k j (by omega)
      · exact Or.inr k
  rcases key n (Nat.le_refl n) with k | k
  · obtain ⟨i, i1, i2⟩ := h
    rw [k i i1] at i2
    cases i2
  · exact k
theorem g_nx_lt' {n i : Nat} (h : i < n) : g_nx n i < n := by unfold g_nx; split <;> omega
theorem gt_pt_mem {F : s_Fig} {i : Nat} (h : i < F.length) : g_pt F i ∈ F := by
  unfold g_pt
  rw [List.getElem?_eq_getElem h]
  exact List.getElem_mem h
/-- a point of the border lies on the stretch that stretchOf names -/
theorem gt_str {F : s_Fig} (h : gt_smp F) {p : gt_P} (hp : ∃ e ∈ gt_ed F, gt_O e.1 e.2 p) : ∃ i : Nat, g_str F p.1 p.2 = i ∧ i < F.length ∧ p ≠ g_pt F (g_nx F.length i) ∧ gt_O (g_pt F i) (g_pt F (g_nx F.length i)) p := by
  obtain ⟨e, he, ho⟩ := hp
  obtain ⟨i, hi, ee⟩ := gt_ed_i.mp he
  subst ee
  have hx : ∃ i, i < F.length ∧ g_strf F p.1 p.2 i = true := by
    by_cases c : p = g_pt F (g_nx F.length i)
    · have hn := g_nx_lt' hi
      refine ⟨g_nx F.length i, hn, gt_strf.mpr ⟨?_, by rw [c]; exact gt_O_l⟩⟩
      have hl : F ≠ [] := fun z => by rw [z] at hi; cases hi
      have m1 : (g_pt F (g_nx F.length i), g_pt F (g_nx F.length (g_nx F.length i))) ∈ gt_ed F := gt_ed_i.mpr ⟨_, hn, rfl⟩
      have := (gt_spk h hl he m1 rfl).2.1
      rw [c]; exact this
    · exact ⟨i, hi, gt_strf.mpr ⟨c, ho⟩⟩
  obtain ⟨k, k1, k2, k3⟩ := g_fst_ex hx
  have := gt_strf.mp k3
  exact ⟨k, k1, k2, this.1, this.2⟩
theorem gt_run_hd {F : s_Fig} {c m : Nat} (h : 0 < m) : ∃ r, gt_run F c m = g_pt F (g_nx F.length c) :: r := by
  cases m with
  | zero => omega
  | succ m => exact ⟨_, rfl⟩
/-- one point more, where it isn't there -/
theorem gt_ref_in {v c b : gt_P} {r : List gt_P} (h : gt_smp (v :: c :: r)) (hb : gt_O v c b) (n2 : b ≠ c) : gt_ref (v :: c :: r) ((if b = v then [v] else [v, b]) ++ c :: r) := by
  by_cases e : b = v
  · rw [if_pos e]; exact gt_ref_refl h
  · rw [if_neg e]; exact gt_ref_ins h hb e n2
theorem gt_filt {U : List gt_P} {p x : gt_P} (h : p ∉ U) : (U ++ [x]).filter (fun q => decide (q ≠ p)) = U ++ (if p = x then [] else [x]) := by
  have e : U.filter (fun q => decide (q ≠ p)) = U := List.filter_eq_self.mpr (fun a ha => by
    have : a ≠ p := fun z => h (by rw [← z]; exact ha)
    simp [this])
  rw [List.filter_append, e]
  by_cases c : p = x
  · rw [if_pos c, c]; simp
  · rw [if_neg c]
    have : x ≠ p := fun z => c z.symm
    simp [this]
def gt_l1 (a b : gt_P) : Int := ((b.1 - a.1).natAbs : Int) + ((b.2 - a.2).natAbs : Int)
theorem gt_l1_on {a b p : gt_P} (h : gt_O a b p) : gt_l1 a p ≤ gt_l1 a b ∧ (gt_l1 a p = gt_l1 a b → p = b) := by
  obtain ⟨-, h2, h3⟩ := h
  unfold gt_l1
  refine ⟨by omega, fun z => Prod.ext (by omega) (by omega)⟩
/-- the two points on different stretches -/
theorem gt_two_A {F : s_Fig} (h : gt_smp F) {P R : gt_P} {i j m : Nat} (hi : i < F.length) (hj : j < F.length) (hm : 1 ≤ m ∧ m < F.length) (e1 : gt_rc F.length i m = j) (e2 : gt_rc F.length j (F.length - m) = i) (r1 : R ≠ g_pt F (g_nx F.length i)) (r2 : gt_O (g_pt F i) (g_pt F (g_nx F.length i)) R) (p1 : P ≠ g_pt F (g_nx F.length j)) (p2 : gt_O (g_pt F j) (g_pt F (g_nx F.length j)) P) (ne : P ≠ R) : gt_ref F (P :: ((gt_run F j (F.length - m)).filter (fun q => decide (q ≠ R)) ++ R :: (gt_run F i m).filter (fun q => decide (q ≠ P)))) := by
  have hz := gt_turn_i hi
  have eF : F = F.take i ++ F.drop i := (List.take_append_drop i F).symm
  have ref0 : gt_ref F (g_pt F i :: gt_run F i (F.length - 1)) := by
    have := gt_ref_rot (s := F.take i) (t := F.drop i) (by rw [← eF]; exact h)
    rw [← eF, hz] at this
    exact this
  generalize hU : gt_run F i (m - 1) = U
  generalize hW : gt_run F j (F.length - m - 1) = W
  have u1 : gt_run F i m = U ++ [g_pt F j] := by
    rw [← hU, ← e1]
    have := gt_run_snoc (F := F) (c := i) (m := m - 1)
    rw [show m - 1 + 1 = m by omega] at this
    exact this
  have w1 : gt_run F j (F.length - m) = W ++ [g_pt F i] := by
    rw [← hW]
    have := gt_run_snoc (F := F) (c := j) (m := F.length - m - 1)
    rw [show F.length - m - 1 + 1 = F.length - m by omega, e2] at this
    exact this
  have z1 : gt_run F i (F.length - 1) = U ++ g_pt F j :: W := by
    rw [show F.length - 1 = m + (F.length - m - 1) by omega, gt_run_add, e1, u1, hW]
    simp
  rw [z1] at ref0
  have hd1 : ∃ r, U ++ g_pt F j :: W = g_pt F (g_nx F.length i) :: r := by
    rw [← z1]; exact gt_run_hd (by omega)
  have hd2 : ∃ r, W ++ [g_pt F i] = g_pt F (g_nx F.length j) :: r := by
    rw [← w1]; exact gt_run_hd (by omega)
  generalize hA : g_pt F i = A at *
  generalize hB : g_pt F j = B at *
  have eA : (A, g_pt F (g_nx F.length i)) ∈ gt_ed F := gt_ed_i.mpr ⟨i, hi, by rw [hA]⟩
  have eB : (B, g_pt F (g_nx F.length j)) ∈ gt_ed F := gt_ed_i.mpr ⟨j, hj, by rw [hB]⟩
  have nd := gt_smp_nd ref0.1
  have memF : ∀ x, x ∈ A :: (U ++ B :: W) → x ∈ F := fun x hx => by
    rw [← z1] at hx
    rw [← hz] at hx
    rw [eF]
    rcases List.mem_append.mp hx with k | k
    · exact List.mem_append.mpr (Or.inr k)
    · exact List.mem_append.mpr (Or.inl k)
  have nPU : P ∉ U := fun z => by
    have hx : P ∈ A :: (U ++ B :: W) := List.mem_cons_of_mem _ (List.mem_append.mpr (Or.inl z))
    rcases gt_vtx h (memF P hx) eB p2 with k | k
    · have k : P = B := k
      rw [k] at z
      rw [List.nodup_cons, List.nodup_append] at nd
      exact nd.2.2.2 B z B (List.mem_cons_self ..) rfl
    · exact p1 k
  have nRW : R ∉ W := fun z => by
    have hx : R ∈ A :: (U ++ B :: W) := List.mem_cons_of_mem _ (List.mem_append.mpr (Or.inr (List.mem_cons_of_mem _ z)))
    rcases gt_vtx h (memF R hx) eA r2 with k | k
    · have k : R = A := k
      rw [k] at z
      rw [List.nodup_cons] at nd
      exact nd.1 (List.mem_append.mpr (Or.inr (List.mem_cons_of_mem _ z)))
    · exact r1 k
  rw [u1, w1, gt_filt nPU, gt_filt nRW]
  -- the one point
  obtain ⟨r, er⟩ := hd1
  rw [er] at ref0
  have ref1 := gt_ref_trans ref0 (gt_ref_in ref0.1 r2 r1)
  rw [← er] at ref1
  -- turned to the other stretch
  have ref2 : gt_ref F (B :: W ++ ((if R = A then [A] else [A, R]) ++ U)) := by
    have e : (if R = A then [A] else [A, R]) ++ (U ++ B :: W) = ((if R = A then [A] else [A, R]) ++ U) ++ (B :: W) := by simp
    rw [e] at ref1
    exact gt_ref_trans ref1 (gt_ref_rot ref1.1)
  obtain ⟨r', er'⟩ := hd2
  have e3 : B :: W ++ ((if R = A then [A] else [A, R]) ++ U) = B :: g_pt F (g_nx F.length j) :: (r' ++ ((if R = A then [] else [R]) ++ U)) := by
    have : (if R = A then [A] else [A, R]) = [A] ++ (if R = A then [] else [R]) := by split <;> rfl
    rw [this]
    have : B :: W ++ ([A] ++ (if R = A then [] else [R]) ++ U) = B :: ((W ++ [A]) ++ ((if R = A then [] else [R]) ++ U)) := by simp
    rw [this, er']; rfl
  rw [e3] at ref2
  have ref3 := gt_ref_trans ref2 (gt_ref_in ref2.1 p2 p1)
  have e4 : (if P = B then [B] else [B, P]) ++ g_pt F (g_nx F.length j) :: (r' ++ ((if R = A then [] else [R]) ++ U)) = (if P = B then [] else [B]) ++ (P :: (W ++ (if R = A then [] else [A]) ++ R :: U)) := by
    have : g_pt F (g_nx F.length j) :: (r' ++ ((if R = A then [] else [R]) ++ U)) = (W ++ [A]) ++ ((if R = A then [] else [R]) ++ U) := by rw [er']; rfl
    rw [this]
    by_cases c1 : P = B
    · rw [if_pos c1, if_pos c1, c1]
      by_cases c2 : R = A
      · rw [if_pos c2, if_pos c2, c2]; simp
      · rw [if_neg c2, if_neg c2]; simp
    · rw [if_neg c1, if_neg c1]
      by_cases c2 : R = A
      · rw [if_pos c2, if_pos c2, c2]; simp
      · rw [if_neg c2, if_neg c2]; simp
  rw [e4] at ref3
  have ref4 := gt_ref_trans ref3 (gt_ref_rot ref3.1)
  have e5 : P :: (W ++ (if R = A then [] else [A]) ++ R :: U) ++ (if P = B then [] else [B]) = P :: (W ++ (if R = A then [] else [A]) ++ R :: (U ++ if P = B then [] else [B])) := by simp
  rw [e5] at ref4
  exact ref4
/-- both on one stretch, P ahead of R -/
theorem gt_two_B {F : s_Fig} (h : gt_smp F) {P R : gt_P} {i : Nat} (hi : i < F.length) (r1 : R ≠ g_pt F (g_nx F.length i)) (r2 : gt_O (g_pt F i) (g_pt F (g_nx F.length i)) R) (p1 : P ≠ g_pt F (g_nx F.length i)) (p2 : gt_O (g_pt F i) (g_pt F (g_nx F.length i)) P) (lt : gt_l1 (g_pt F i) P < gt_l1 (g_pt F i) R) : gt_ref F (P :: ([] ++ R :: (gt_run F i F.length).filter (fun q => decide (q ≠ P)))) := by
  have hz := gt_turn_i hi
  have eF : F = F.take i ++ F.drop i := (List.take_append_drop i F).symm
  have ref0 : gt_ref F (g_pt F i :: gt_run F i (F.length - 1)) := by
    have := gt_ref_rot (s := F.take i) (t := F.drop i) (by rw [← eF]; exact h)
    rw [← eF, hz] at this
    exact this
  have l3 : 3 ≤ F.length := by
    obtain ⟨v, b, c, r, e⟩ := gt_smp_3 h (fun z => by rw [z] at hi; cases hi)
    rw [e]; simp
  obtain ⟨r, er⟩ := gt_run_hd (F := F) (c := i) (m := F.length - 1) (by omega)
  have u1 : gt_run F i F.length = gt_run F i (F.length - 1) ++ [g_pt F i] := by
    have := gt_run_snoc (F := F) (c := i) (m := F.length - 1)
    rw [show F.length - 1 + 1 = F.length by omega, gt_rc_wrap hi (by omega) (by omega), show i + F.length - F.length = i by omega] at this
    exact this
  have eA : (g_pt F i, g_pt F (g_nx F.length i)) ∈ gt_ed F := gt_ed_i.mpr ⟨i, hi, rfl⟩
  generalize hA : g_pt F i = A at *
  generalize g_pt F (g_nx F.length i) = C at *
  have nd := gt_smp_nd ref0.1
  have nP : P ∉ gt_run F i (F.length - 1) := fun z => by
    have hx : P ∈ A :: gt_run F i (F.length - 1) := List.mem_cons_of_mem _ z
    have hm : P ∈ F := by
      rw [← hz] at hx
      rw [eF]
      rcases List.mem_append.mp hx with k | k
      · exact List.mem_append.mpr (Or.inr k)
      · exact List.mem_append.mpr (Or.inl k)
    rcases gt_vtx h hm eA p2 with k | k
    · have k : P = A := k
      rw [k] at z
      exact (List.nodup_cons.mp nd).1 z
    · exact p1 k
  rw [u1, gt_filt nP]
  have RA : R ≠ A := fun z => by
    have l0 : 0 ≤ gt_l1 A P := by unfold gt_l1; omega
    have : gt_l1 A R = 0 := by rw [z]; unfold gt_l1; omega
    omega
  have PR : P ≠ R := fun z => by rw [z] at lt; omega
  have pr : gt_O A R P := by
    rcases gt_O_ord p2 r2 with k | k
    · exact k
    · have := (gt_l1_on k).1
      omega
  rw [er] at ref0 ⊢
  have ref1 := gt_ref_trans ref0 (gt_ref_ins ref0.1 r2 RA r1)
  have ref2 := gt_ref_trans ref1 (gt_ref_in ref1.1 pr PR)
  have e4 : (if P = A then [A] else [A, P]) ++ R :: C :: r = (if P = A then [] else [A]) ++ P :: (R :: C :: r) := by
    by_cases c1 : P = A
    · rw [if_pos c1, if_pos c1, c1]; rfl
    · rw [if_neg c1, if_neg c1]; rfl
  rw [e4] at ref2
  have ref3 := gt_ref_trans ref2 (gt_ref_rot ref2.1)
  have e5 : P :: (R :: C :: r) ++ (if P = A then [] else [A]) = P :: ([] ++ R :: (C :: r ++ if P = A then [] else [A])) := by simp
  rw [e5] at ref3
  exact ref3
/-- a FIGURE's border with two of its points as corners, as layBorder lays it -/
theorem gt_two {F : s_Fig} (h : gt_smp F) {P R : gt_P} (hP : ∃ e ∈ gt_ed F, gt_O e.1 e.2 P) (hR : ∃ e ∈ gt_ed F, gt_O e.1 e.2 R) (ne : P ≠ R) : gt_ref F (P :: (g_bord F P R ++ R :: g_bord F R P)) := by
  obtain ⟨i, i1, i2, i3, i4⟩ := gt_str h hR
  obtain ⟨j, j1, j2, j3, j4⟩ := gt_str h hP
  have ah : ∀ (p q : gt_P) (c : Nat), g_ah F p q c = gt_l1 (g_pt F c) q - gt_l1 (g_pt F c) p := fun p q c => by unfold g_ah gt_l1; omega
  have b1 : g_bord F R P = (gt_run F i (g_bst F R P).toNat).filter (fun q => decide (q ≠ P)) := by
    unfold g_bord
    rw [i1, j1, if_neg (by omega), gt_brd_run]
    rfl
  have b2 : g_bord F P R = (gt_run F j (g_bst F P R).toNat).filter (fun q => decide (q ≠ R)) := by
    unfold g_bord
    rw [i1, j1, if_neg (by omega), gt_brd_run]
    rfl
  rw [b1, b2]
  have s1 : g_bst F R P = if (j : Int) - i < 0 ∨ ((j : Int) - i = 0 ∧ gt_l1 (g_pt F i) P - gt_l1 (g_pt F i) R < 0) then (j : Int) - i + F.length else (j : Int) - i := by
    unfold g_bst
    rw [i1, j1, ah, show ((i : Int)).toNat = i by omega]
  have s2 : g_bst F P R = if (i : Int) - j < 0 ∨ ((i : Int) - j = 0 ∧ gt_l1 (g_pt F j) R - gt_l1 (g_pt F j) P < 0) then (i : Int) - j + F.length else (i : Int) - j := by
    unfold g_bst
    rw [i1, j1, ah, show ((j : Int)).toNat = j by omega]
  by_cases c : i = j
  · subst c
    rcases Int.lt_trichotomy (gt_l1 (g_pt F i) P) (gt_l1 (g_pt F i) R) with lt | eq | gt
    · rw [if_pos (by omega)] at s1
      rw [if_neg (by omega)] at s2
      rw [s1, s2, show ((i : Int) - i + F.length).toNat = F.length by omega, show ((i : Int) - i).toNat = 0 by omega]
      exact gt_two_B h i2 i3 i4 j3 j4 lt
    · exfalso
      rcases gt_O_ord i4 j4 with k | k
      · exact ne ((gt_l1_on k).2 eq.symm).symm
      · exact ne ((gt_l1_on k).2 eq)
    · rw [if_neg (by omega)] at s1
      rw [if_pos (by omega)] at s2
      rw [s1, s2, show ((i : Int) - i + F.length).toNat = F.length by omega, show ((i : Int) - i).toNat = 0 by omega]
      have := gt_two_B h i2 j3 j4 i3 i4 gt
      have k := gt_ref_trans this (gt_ref_rot (s := [R]) (t := P :: (gt_run F i F.length).filter (fun q => decide (q ≠ R))) this.1)
      exact k
  · by_cases lt : i < j
    · rw [if_neg (by omega)] at s1
      rw [if_pos (by omega)] at s2
      have k := gt_two_A h (m := j - i) i2 j2 (by omega) (by rw [gt_rc_lt (by omega)]; omega) (by rw [gt_rc_wrap j2 (by omega) (by omega)]; omega) i3 i4 j3 j4 ne
      rw [s1, s2, show ((j : Int) - i).toNat = j - i by omega, show ((i : Int) - j + F.length).toNat = F.length - (j - i) by omega]
      exact k
    · rw [if_pos (by omega)] at s1
      rw [if_neg (by omega)] at s2
      have k := gt_two_A h (m := j + F.length - i) i2 j2 (by omega) (by rw [gt_rc_wrap i2 (by omega) (by omega)]; omega) (by rw [gt_rc_lt (by omega)]; omega) i3 i4 j3 j4 ne
      rw [s1, s2, show ((j : Int) - i + F.length).toNat = j + F.length - i by omega, show ((i : Int) - j).toNat = F.length - (j + F.length - i) by omega]
      exact k
