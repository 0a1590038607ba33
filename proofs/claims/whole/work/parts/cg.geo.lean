/-! geometry: edges laid -/
/-! stretches parted at another FIGURE's corners -/
def gt_in (p q c : gt_P) : Prop := c ≠ p ∧ c ≠ q ∧ gt_O p q c
theorem gt_far0 {c p : gt_P} : g_far c p = 0 ↔ c = p := by
  unfold g_far
  constructor
  · intro h
    exact Prod.ext (by omega) (by omega)
  · intro h
    rw [h]; omega
theorem gt_nrc {F : s_Fig} {p q : gt_P} {k : Nat} {s : Int × Int} : g_nrc F p q k s = true ↔ (gt_in p q (g_pt F k) ∧ (s.1 < 0 ∨ g_far (g_pt F k) p < s.2)) := by
  unfold g_nrc gt_in
  rw [Bool.and_eq_true, Bool.and_eq_true, gt_gO, Bool.or_eq_true, decide_eq_true_iff, decide_eq_true_iff, Bool.not_eq_true', Bool.or_eq_false_iff, decide_eq_false_iff_not, decide_eq_false_iff_not, gt_far0]
  exact ⟨fun h => ⟨⟨h.1.1.1, h.1.1.2, h.2⟩, h.1.2⟩, fun h => ⟨⟨⟨h.1.1, h.1.2.1⟩, h.2⟩, h.1.2.2⟩⟩
theorem gt_nrst {F : s_Fig} {p q : gt_P} : ∀ {k : Nat}, ((g_nrst F p q k).1 < 0 ∧ ∀ j, j < k → ¬ gt_in p q (g_pt F j)) ∨ (0 ≤ (g_nrst F p q k).1 ∧ (g_nrst F p q k).1.toNat < k ∧ gt_in p q (g_pt F (g_nrst F p q k).1.toNat) ∧ (g_nrst F p q k).2 = g_far (g_pt F (g_nrst F p q k).1.toNat) p ∧ ∀ j, j < k → gt_in p q (g_pt F j) → (g_nrst F p q k).2 ≤ g_far (g_pt F j) p)
  | 0 => Or.inl ⟨by unfold g_nrst; dsimp only; omega, fun j hj => by omega⟩
  | k + 1 => by
    have ih := gt_nrst (F := F) (p := p) (q := q) (k := k)
    by_cases c : g_nrc F p q k (g_nrst F p q k) = true
    · have e : g_nrst F p q (k + 1) = ((k : Int), g_far (g_pt F k) p) := by
        show (if _ then _ else _) = _
        rw [if_pos c]
      obtain ⟨c1, c2⟩ := gt_nrc.mp c
      refine Or.inr ?_
      rw [e]
      dsimp only
      rw [show ((k : Int)).toNat = k by omega]
      refine ⟨by omega, by omega, c1, rfl, fun j hj hin => ?_⟩
      by_cases ej : j = k
      · rw [ej]; omega
      · rcases ih with ih | ih
        · exact absurd hin (ih.2 j (by omega))
        · have := ih.2.2.2.2 j (by omega) hin
          omega
    · have e : g_nrst F p q (k + 1) = g_nrst F p q k := by
        show (if _ then _ else _) = _
        rw [if_neg c]
      rw [e]
      have c' : ¬ (gt_in p q (g_pt F k) ∧ ((g_nrst F p q k).1 < 0 ∨ g_far (g_pt F k) p < (g_nrst F p q k).2)) := fun z => c (gt_nrc.mpr z)
      rcases ih with ih | ih
      · refine Or.inl ⟨ih.1, fun j hj hin => ?_⟩
        by_cases ej : j = k
        · rw [ej] at hin; exact c' ⟨hin, Or.inl ih.1⟩
        · exact ih.2 j (by omega) hin
      · refine Or.inr ⟨ih.1, by omega, ih.2.2.1, ih.2.2.2.1, fun j hj hin => ?_⟩
        by_cases ej : j = k
        · rw [ej] at hin ⊢
          refine Int.not_lt.mp (fun z => c' ⟨hin, Or.inr z⟩)
        · exact ih.2.2.2.2 j (by omega) hin
/-- the points set in on a stretch -/
def gt_cp (G : s_Fig) (q : gt_P) : Nat → gt_P → List gt_P
  | 0, _ => []
  | n + 1, p => if (g_nrst G p q G.length).1 < 0 then [] else g_pt G (g_nrst G p q G.length).1.toNat :: gt_cp G q n (g_pt G (g_nrst G p q G.length).1.toNat)
theorem gt_cutE {G : s_Fig} {q : gt_P} : ∀ {n : Nat} {p : gt_P}, g_cutE G q n p = gt_pe p (gt_cp G q n p ++ [q])
  | 0, _ => rfl
  | n + 1, p => by
    unfold g_cutE gt_cp
    split
    · rfl
    · rw [gt_cutE]; rfl
theorem gt_far_l1 {c p : gt_P} : g_far c p = gt_l1 p c := rfl
theorem gt_cp_ref {G : s_Fig} {q : gt_P} : ∀ {n : Nat} {p : gt_P} {r : List gt_P}, gt_smp (p :: q :: r) → gt_ref (p :: q :: r) (p :: (gt_cp G q n p ++ q :: r))
  | 0, _, _, h => gt_ref_refl h
  | n + 1, p, r, h => by
    unfold gt_cp
    split
    · exact gt_ref_refl h
    · next c =>
      rcases gt_nrst (F := G) (p := p) (q := q) (k := G.length) with k | k
      · exact absurd k.1 c
      · obtain ⟨k0, k1, ⟨k2, k3, k4⟩, k5, k6⟩ := k
        generalize g_pt G (g_nrst G p q G.length).1.toNat = d at *
        have r1 := gt_ref_ins h k4 k2 k3
        have r2 := gt_ref_trans r1 (gt_ref_rot (s := [p]) (t := d :: q :: r) r1.1)
        have r3 := gt_ref_trans r2 (gt_cp_ref (G := G) (n := n) (p := d) (r := r ++ [p]) r2.1)
        have e : d :: (gt_cp G q n d ++ q :: (r ++ [p])) = (d :: (gt_cp G q n d ++ q :: r)) ++ [p] := by simp
        rw [e] at r3
        exact gt_ref_trans r3 (gt_ref_rot (s := d :: (gt_cp G q n d ++ q :: r)) (t := [p]) r3.1)
theorem gt_cp_mem {G : s_Fig} {q : gt_P} : ∀ {n : Nat} {p x : gt_P}, x ∈ gt_cp G q n p → x ∈ G
  | 0, _, _, h => by cases h
  | n + 1, p, x, h => by
    unfold gt_cp at h
    split at h
    · cases h
    · next c =>
      rcases gt_nrst (F := G) (p := p) (q := q) (k := G.length) with k | k
      · exact absurd k.1 c
      · rcases List.mem_cons.mp h with e | e
        · rw [e]; exact gt_pt_mem k.2.1
        · exact gt_cp_mem e
def gt_inb (p q c : gt_P) : Bool := !decide (c = p) && (!decide (c = q) && g_O p q c)
theorem gt_inb_iff {p q c : gt_P} : gt_inb p q c = true ↔ gt_in p q c := by
  unfold gt_inb gt_in
  rw [Bool.and_eq_true, Bool.and_eq_true, gt_gO, Bool.not_eq_true', Bool.not_eq_true', decide_eq_false_iff_not, decide_eq_false_iff_not]
theorem gt_flt_lt {P Q : gt_P → Bool} {x : gt_P} (hPQ : ∀ a, P a = true → Q a = true) : ∀ {l : List gt_P}, (l.filter P).length ≤ (l.filter Q).length ∧ (x ∈ l → Q x = true → P x = false → (l.filter P).length < (l.filter Q).length)
  | [] => ⟨Nat.le_refl _, fun h => by cases h⟩
  | a :: l => by
    have ih := gt_flt_lt hPQ (x := x) (l := l)
    rw [List.filter_cons, List.filter_cons]
    cases e1 : P a with
    | true =>
      rw [if_pos rfl, if_pos (hPQ a e1), List.length_cons, List.length_cons]
      refine ⟨by omega, fun hx hq hp => ?_⟩
      rcases List.mem_cons.mp hx with e | e
      · rw [e, e1] at hp; cases hp
      · have := ih.2 e hq hp; omega
    | false =>
      rw [if_neg (by simp)]
      cases e2 : Q a with
      | true =>
        rw [if_pos rfl, List.length_cons]
        exact ⟨by omega, fun _ _ _ => by omega⟩
      | false =>
        rw [if_neg (by simp)]
        refine ⟨ih.1, fun hx hq hp => ?_⟩
        rcases List.mem_cons.mp hx with e | e
        · rw [e, e2] at hq; cases hq
        · exact ih.2 e hq hp
theorem gt_in_tr {p q c d : gt_P} (hc : gt_in p q c) (hd : gt_in c q d) : gt_in p q d ∧ gt_O c q d := by
  obtain ⟨c1, c2, c3⟩ := hc
  obtain ⟨d1, d2, d3⟩ := hd
  have ho : gt_O p q d := gt_O_sw (gt_O_tr (gt_O_sw c3) (gt_O_sw d3))
  refine ⟨⟨fun z => ?_, d2, ho⟩, d3⟩
  -- p between c and q, and c between p and q: c is p
  rw [z] at d3
  obtain ⟨-, a1, a2⟩ := c3
  obtain ⟨-, b1, b2⟩ := d3
  exact c1 (Prod.ext (by omega) (by omega))
/-- no corner is left between -/
theorem gt_cp_no {G : s_Fig} {q : gt_P} : ∀ {n : Nat} {p : gt_P}, p ≠ q → (G.filter (gt_inb p q)).length ≤ n → (∀ e ∈ gt_pe p (gt_cp G q n p ++ [q]), ∀ c ∈ G, ¬ gt_in e.1 e.2 c) ∧ ∀ x, gt_O p q x → ∃ e ∈ gt_pe p (gt_cp G q n p ++ [q]), gt_O e.1 e.2 x
  | 0, p, hpq, h => by
    have e0 : G.filter (gt_inb p q) = [] := List.length_eq_zero_iff.mp (by omega)
    refine ⟨fun e he c hc hin => ?_, fun x hx => ⟨(p, q), List.mem_cons_self .., hx⟩⟩
    rcases List.mem_singleton.mp he with rfl
    have : c ∈ G.filter (gt_inb p q) := List.mem_filter.mpr ⟨hc, gt_inb_iff.mpr hin⟩
    rw [e0] at this
    cases this
  | n + 1, p, hpq, h => by
    unfold gt_cp
    split
    · next c =>
      refine ⟨fun e he d hd hin => ?_, fun x hx => ⟨(p, q), List.mem_cons_self .., hx⟩⟩
      rcases List.mem_singleton.mp he with rfl
      rcases gt_nrst (F := G) (p := p) (q := q) (k := G.length) with k | k
      · obtain ⟨i, hi⟩ := List.mem_iff_getElem?.mp hd
        have il := (List.getElem?_eq_some_iff.mp hi).1
        have : g_pt G i = d := by unfold g_pt; rw [hi]; rfl
        exact k.2 i il (by rw [this]; exact hin)
      · omega
    · next c =>
      rcases gt_nrst (F := G) (p := p) (q := q) (k := G.length) with k | k
      · exact absurd k.1 c
      · obtain ⟨k0, k1, hin, k5, k6⟩ := k
        rw [k5] at k6
        have dm : g_pt G (g_nrst G p q G.length).1.toNat ∈ G := gt_pt_mem k1
        generalize g_pt G (g_nrst G p q G.length).1.toNat = d at *
        have lt := (gt_flt_lt (P := gt_inb d q) (Q := gt_inb p q) (x := d) (fun a ha => gt_inb_iff.mpr (gt_in_tr hin (gt_inb_iff.mp ha)).1) (l := G)).2 dm (gt_inb_iff.mpr hin) (by
          cases e : gt_inb d q d with
          | false => rfl
          | true => exact absurd rfl (gt_inb_iff.mp e).1)
        obtain ⟨i1, i2⟩ := gt_cp_no (G := G) (q := q) (n := n) (p := d) hin.2.1 (by omega)
        refine ⟨fun e he c hc hcin => ?_, fun x hx => ?_⟩
        · rcases List.mem_cons.mp he with q1 | q1
          · rw [q1] at hcin
            -- between p and the nearest
            have hc2 : gt_in p q c := ⟨hcin.1, fun z => by
              have hcin2 : gt_O p d c := hcin.2.2
              rw [z] at hcin2
              obtain ⟨-, a1, a2⟩ := hin.2.2
              obtain ⟨-, b1, b2⟩ := hcin2
              exact hin.2.1 (Prod.ext (by omega) (by omega)), gt_O_tr hin.2.2 hcin.2.2⟩
            obtain ⟨j, hj⟩ := List.mem_iff_getElem?.mp hc
            have jl := (List.getElem?_eq_some_iff.mp hj).1
            have ej : g_pt G j = c := by unfold g_pt; rw [hj]; rfl
            have := k6 j jl (by rw [ej]; exact hc2)
            rw [ej, gt_far_l1, gt_far_l1] at this
            have l : gt_l1 p c ≤ gt_l1 p d ∧ (gt_l1 p c = gt_l1 p d → c = d) := gt_l1_on hcin.2.2
            exact hcin.2.1 (l.2 (by omega))
          · exact i1 e q1 c hc hcin
        · rcases gt_O_spl hin.2.2 hx with w | w
          · exact ⟨(p, d), List.mem_cons_self .., w⟩
          · obtain ⟨e, e1, e2⟩ := i2 x w
            exact ⟨e, List.mem_cons_of_mem _ e1, e2⟩
/-- a FIGURE's way round with another one's corners set in, as layEdges lays it -/
def gt_aug (F G : s_Fig) : List gt_P := (g_edgs F G F.length).map Prod.fst
theorem gt_edgs_chain {F G : s_Fig} : ∀ {i : Nat}, 0 < i → i ≤ F.length → ∃ r, (g_edgs F G i).map Prod.fst = g_pt F 0 :: r ∧ g_edgs F G i = gt_pe (g_pt F 0) (r ++ [g_pt F (g_nx F.length (i - 1))])
  | 0, h, _ => by omega
  | i + 1, _, hi => by
    have e : g_edgs F G (i + 1) = g_edgs F G i ++ gt_pe (g_pt F i) (gt_cp G (g_pt F (g_nx F.length i)) 41 (g_pt F i) ++ [g_pt F (g_nx F.length i)]) := by
      show _ ++ g_cutE _ _ _ _ = _
      rw [gt_cutE]
    rw [e, List.map_append, gt_pe_fst]
    by_cases c : i = 0
    · subst c
      exact ⟨gt_cp G (g_pt F (g_nx F.length 0)) 41 (g_pt F 0), rfl, rfl⟩
    · obtain ⟨r, r1, r2⟩ := gt_edgs_chain (F := F) (G := G) (i := i) (by omega) (by omega)
      have en : g_nx F.length (i - 1) = i := by unfold g_nx; rw [if_pos (by omega)]; omega
      rw [en] at r2
      refine ⟨r ++ g_pt F i :: gt_cp G (g_pt F (g_nx F.length i)) 41 (g_pt F i), by rw [r1]; rfl, ?_⟩
      rw [r2]
      have : r ++ g_pt F i :: gt_cp G (g_pt F (g_nx F.length i)) 41 (g_pt F i) ++ [g_pt F (g_nx F.length (i + 1 - 1))] = (r ++ [g_pt F i]) ++ (gt_cp G (g_pt F (g_nx F.length i)) 41 (g_pt F i) ++ [g_pt F (g_nx F.length i)]) := by
        rw [show i + 1 - 1 = i by omega]; simp
      rw [this, gt_pe_app (l := r ++ [g_pt F i])]
      have : gt_ls (g_pt F 0) (r ++ [g_pt F i]) = g_pt F i := by rw [gt_ls_app]; rfl
      rw [this]
theorem gt_aug_ed {F G : s_Fig} (h : F ≠ []) : gt_ed (gt_aug F G) = g_edgs F G F.length := by
  have hp := List.length_pos_iff.mpr h
  obtain ⟨r, r1, r2⟩ := gt_edgs_chain (F := F) (G := G) hp (Nat.le_refl _)
  unfold gt_aug
  rw [r1, r2]
  have : g_nx F.length (F.length - 1) = 0 := by unfold g_nx; rw [if_neg (by omega)]
  rw [this]; rfl
theorem gt_aug_ref1 {F G : s_Fig} (h : gt_smp F) (h0 : F ≠ []) : ∀ {i : Nat}, i ≤ F.length → gt_ref F (F.drop i ++ (g_edgs F G i).map Prod.fst)
  | 0, _ => by
    show gt_ref F (F.drop 0 ++ [])
    rw [List.append_nil, List.drop_zero]
    exact gt_ref_refl h
  | i + 1, hi => by
    have ih := gt_aug_ref1 (G := G) h h0 (i := i) (by omega)
    have hd : F.drop i = g_pt F i :: F.drop (i + 1) := by
      rw [List.drop_eq_getElem_cons (by omega)]
      unfold g_pt
      rw [List.getElem?_eq_getElem (by omega)]; rfl
    -- what comes next
    have nx : ∃ r, F.drop (i + 1) ++ (g_edgs F G i).map Prod.fst = g_pt F (g_nx F.length i) :: r := by
      by_cases c : i + 1 < F.length
      · have : g_nx F.length i = i + 1 := by unfold g_nx; rw [if_pos c]
        rw [this, List.drop_eq_getElem_cons c]
        unfold g_pt
        rw [List.getElem?_eq_getElem c]
        exact ⟨_, rfl⟩
      · have : g_nx F.length i = 0 := by unfold g_nx; rw [if_neg c]
        rw [this, List.drop_eq_nil_of_le (by omega)]
        have i0 : 0 < i := by
          have := gt_smp_3 h h0
          obtain ⟨v, b, c', r, e⟩ := this
          have : 3 ≤ F.length := by rw [e]; simp
          omega
        obtain ⟨r, r1, -⟩ := gt_edgs_chain (F := F) (G := G) i0 (by omega)
        exact ⟨r, r1⟩
    obtain ⟨r, er⟩ := nx
    rw [hd] at ih
    have ih' : gt_ref F (g_pt F i :: g_pt F (g_nx F.length i) :: r) := by rw [← er]; exact ih
    have r1 := gt_ref_trans ih' (gt_cp_ref (G := G) (n := 41) ih'.1)
    have e : g_pt F i :: (gt_cp G (g_pt F (g_nx F.length i)) 41 (g_pt F i) ++ g_pt F (g_nx F.length i) :: r) = (g_pt F i :: gt_cp G (g_pt F (g_nx F.length i)) 41 (g_pt F i)) ++ (F.drop (i + 1) ++ (g_edgs F G i).map Prod.fst) := by rw [er]; rfl
    rw [e] at r1
    have r2 := gt_ref_trans r1 (gt_ref_rot r1.1)
    have e2 : (g_edgs F G (i + 1)).map Prod.fst = (g_edgs F G i).map Prod.fst ++ (g_pt F i :: gt_cp G (g_pt F (g_nx F.length i)) 41 (g_pt F i)) := by
      show (g_edgs F G i ++ g_cutE _ _ _ _).map Prod.fst = _
      rw [gt_cutE, List.map_append, gt_pe_fst]
    rw [e2, ← List.append_assoc]
    exact r2
theorem gt_aug_ref {F G : s_Fig} (h : gt_smp F) (h0 : F ≠ []) : gt_ref F (gt_aug F G) := by
  have := gt_aug_ref1 (G := G) h h0 (Nat.le_refl F.length)
  rw [List.drop_eq_nil_of_le (Nat.le_refl _)] at this
  exact this
theorem gt_edgs_mem {F G : s_Fig} {e : gt_E} : ∀ {n : Nat}, e ∈ g_edgs F G n ↔ ∃ i, i < n ∧ e ∈ gt_pe (g_pt F i) (gt_cp G (g_pt F (g_nx F.length i)) 41 (g_pt F i) ++ [g_pt F (g_nx F.length i)])
  | 0 => ⟨fun h => (by cases h), fun ⟨i, h, _⟩ => by omega⟩
  | n + 1 => by
    show e ∈ g_edgs F G n ++ g_cutE _ _ _ _ ↔ _
    rw [List.mem_append, gt_cutE, gt_edgs_mem]
    constructor
    · rintro (⟨i, h1, h2⟩ | h)
      · exact ⟨i, by omega, h2⟩
      · exact ⟨n, by omega, h⟩
    · rintro ⟨i, h1, h2⟩
      by_cases c : i = n
      · rw [c] at h2; exact Or.inr h2
      · exact Or.inl ⟨i, by omega, h2⟩
/-- all that is wanted of it -/
theorem gt_aug_all {F G : s_Fig} (h : gt_fig F) (hG : G.length ≤ 40) : gt_ref F (gt_aug F G) ∧ (∀ v ∈ gt_aug F G, v ∈ F ∨ v ∈ G) ∧ (∀ e ∈ gt_ed (gt_aug F G), ∀ c ∈ G, gt_O e.1 e.2 c → c = e.1 ∨ c = e.2) ∧ (∀ x, (∃ e ∈ gt_ed F, gt_O e.1 e.2 x) → ∃ e ∈ gt_ed (gt_aug F G), gt_O e.1 e.2 x) ∧ ∀ c ∈ G, (∃ e ∈ gt_ed F, gt_O e.1 e.2 c) → c ∈ gt_aug F G := by
  have ref := gt_aug_ref (G := G) h.1 h.2.1
  have fu : ∀ p q, (G.filter (gt_inb p q)).length ≤ 41 := fun p q => by
    have := List.length_filter_le (gt_inb p q) G
    omega
  have ne : ∀ i, i < F.length → g_pt F i ≠ g_pt F (g_nx F.length i) := fun i hi => gt_ne h.1 (e := (g_pt F i, g_pt F (g_nx F.length i))) (gt_ed_i.mpr ⟨i, hi, rfl⟩)
  have no : ∀ e ∈ gt_ed (gt_aug F G), ∀ c ∈ G, gt_O e.1 e.2 c → c = e.1 ∨ c = e.2 := fun e he c hc ho => by
    rw [gt_aug_ed h.2.1, gt_edgs_mem] at he
    obtain ⟨i, h1, h2⟩ := he
    have := (gt_cp_no (G := G) (ne i h1) (fu _ _)).1 e h2 c hc
    refine Classical.byContradiction (fun z => this ⟨fun w => z (Or.inl w), fun w => z (Or.inr w), ho⟩)
  have cov : ∀ x, (∃ e ∈ gt_ed F, gt_O e.1 e.2 x) → ∃ e ∈ gt_ed (gt_aug F G), gt_O e.1 e.2 x := fun x ⟨e, he, ho⟩ => by
    obtain ⟨i, h1, rfl⟩ := gt_ed_i.mp he
    obtain ⟨f, f1, f2⟩ := (gt_cp_no (G := G) (ne i h1) (fu _ _)).2 x ho
    exact ⟨f, by rw [gt_aug_ed h.2.1, gt_edgs_mem]; exact ⟨i, h1, f1⟩, f2⟩
  refine ⟨ref, fun v hv => ?_, no, cov, fun c hc hx => ?_⟩
  · have : v ∈ (gt_ed (gt_aug F G)).map Prod.fst := by rw [gt_ed_fst]; exact hv
    obtain ⟨e, he, ev⟩ := List.mem_map.mp this
    rw [gt_aug_ed h.2.1, gt_edgs_mem] at he
    obtain ⟨i, h1, h2⟩ := he
    have := gt_pe_m1 h2
    rw [ev] at this
    rcases List.mem_cons.mp this with k | k
    · rw [k]; exact Or.inl (gt_pt_mem h1)
    · exact Or.inr (gt_cp_mem k)
  · obtain ⟨e, he, ho⟩ := cov c hx
    have m := gt_ed_mem he
    rcases no e he c hc ho with k | k
    · rw [k]; exact m.1
    · rw [k]; exact m.2
