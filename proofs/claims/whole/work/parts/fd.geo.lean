/-! geometry: full ways, the class walk -/
/-! a full way round: all that is not common -/
def gt_fw (A B W : List gt_P) : Prop := gt_way A B W ∧ ∀ e, gt_J A B e → e ∈ gt_ed W
theorem gt_fw_sw {A B W : List gt_P} (w : gt_fw A B W) : gt_fw B A W := ⟨gt_way_sw w.1, fun e he => w.2 e (gt_J_sw he)⟩
theorem gt_ed_nd {l : List gt_P} (hl : l.Nodup) : (gt_ed l).Nodup := by
  have : ((gt_ed l).map Prod.fst).Nodup := by rw [gt_ed_fst]; exact hl
  exact (List.pairwise_map.mp this).imp (fun {a b} hab e => hab (by rw [e]))
/-- two lists of stretches, without what is common -/
theorem gt_cancel {c : gt_P → gt_P → Int} (hc : gt_cc c) : ∀ {L R : List gt_E}, L.Nodup → R.Nodup → gt_sm c L + gt_sm c R = gt_sm c (L.filter (fun e => decide (gt_rv e ∉ R))) + gt_sm c (R.filter (fun e => decide (gt_rv e ∉ L))) ∧ (L.filter (fun e => decide (gt_rv e ∈ R))).length = (R.filter (fun e => decide (gt_rv e ∈ L))).length := by
  intro L R hL hR
  have split : ∀ {L R : List gt_E}, gt_sm c L = gt_sm c (L.filter (fun e => decide (gt_rv e ∉ R))) + gt_sm c (L.filter (fun e => decide (gt_rv e ∈ R))) := fun {L R} => by
    induction L with
    | nil => rfl
    | cons e L ih =>
      rw [gt_sm_cons, ih]
      by_cases k : gt_rv e ∈ R
      · rw [List.filter_cons_of_neg (by simp [k]), List.filter_cons_of_pos (by simp [k]), gt_sm_cons]; omega
      · rw [List.filter_cons_of_pos (by simp [k]), List.filter_cons_of_neg (by simp [k]), gt_sm_cons]; omega
  have nd1 : (L.filter (fun e => decide (gt_rv e ∈ R))).Nodup := hL.filter _
  have nd2 : (R.filter (fun e => decide (gt_rv e ∈ L))).Nodup := hR.filter _
  have inj : ∀ {a b : gt_E}, gt_rv a = gt_rv b → a = b := fun {a b} h => by
    have := congrArg gt_rv h
    exact this
  have nd3 : ((L.filter (fun e => decide (gt_rv e ∈ R))).map gt_rv).Nodup := List.pairwise_map.mpr (nd1.imp (fun {a b} hab e => hab (inj e)))
  have pm : List.Perm (R.filter (fun e => decide (gt_rv e ∈ L))) ((L.filter (fun e => decide (gt_rv e ∈ R))).map gt_rv) := by
    refine (List.perm_ext_iff_of_nodup nd2 nd3).mpr (fun e => ?_)
    rw [List.mem_filter, List.mem_map]
    constructor
    · rintro ⟨h1, h2⟩
      exact ⟨gt_rv e, List.mem_filter.mpr ⟨of_decide_eq_true h2, decide_eq_true (by rw [gt_rv_rv]; exact h1)⟩, rfl⟩
    · rintro ⟨f, h1, h2⟩
      rw [List.mem_filter] at h1
      rw [← h2]
      exact ⟨of_decide_eq_true h1.2, decide_eq_true (by rw [gt_rv_rv]; exact h1.1)⟩
  have s1 := split (L := L) (R := R)
  have s2 := split (L := R) (R := L)
  have s3 := gt_sm_perm (c := c) pm
  rw [gt_sm_rv hc] at s3
  refine ⟨by omega, ?_⟩
  rw [pm.length_eq, List.length_map]
def gt_JA (A B : List gt_P) : List gt_E := (gt_ed A).filter (fun e => decide (gt_rv e ∉ gt_ed B))
theorem gt_JA_m {A B : List gt_P} {e : gt_E} : e ∈ gt_JA A B ↔ e ∈ gt_ed A ∧ gt_rv e ∉ gt_ed B := by
  unfold gt_JA
  rw [List.mem_filter]
  exact ⟨fun h => ⟨h.1, of_decide_eq_true h.2⟩, fun h => ⟨h.1, decide_eq_true h.2⟩⟩
theorem gt_J_list {A B : List gt_P} {e : gt_E} : gt_J A B e ↔ e ∈ gt_JA A B ++ gt_JA B A := by
  rw [List.mem_append, gt_JA_m, gt_JA_m]
  exact Iff.rfl
theorem gt_J_nd {A B : List gt_P} (h : gt_pr A B) : (gt_JA A B ++ gt_JA B A).Nodup := by
  refine List.nodup_append.mpr ⟨(gt_ed_nd (gt_smp_nd h.1.1.1)).filter _, (gt_ed_nd (gt_smp_nd h.1.2.1)).filter _, fun a ha b hb e => ?_⟩
  rw [e] at ha
  exact gt_pr_no2 h (gt_JA_m.mp ha).1 (gt_JA_m.mp hb).1
theorem gt_fw_perm {A B W : List gt_P} (h : gt_pr A B) (w : gt_fw A B W) : List.Perm (gt_ed W) (gt_JA A B ++ gt_JA B A) :=
  (List.perm_ext_iff_of_nodup (gt_ed_nd w.1.2.1) (gt_J_nd h)).mpr (fun e => by
    rw [← gt_J_list]
    exact ⟨w.1.2.2 e, w.2 e⟩)
/-- what adds up -/
theorem gt_fw_sm {A B W : List gt_P} (h : gt_pr A B) (w : gt_fw A B W) {c : gt_P → gt_P → Int} (hc : gt_cc c) : gt_sm c (gt_ed W) = gt_sm c (gt_ed A) + gt_sm c (gt_ed B) := by
  rw [gt_sm_perm (gt_fw_perm h w), gt_sm_app]
  exact (gt_cancel hc (gt_ed_nd (gt_smp_nd h.1.1.1)) (gt_ed_nd (gt_smp_nd h.1.2.1))).1.symm
/-- it has its inside on the left -/
theorem gt_fw_fig {A B W : List gt_P} {N : Nat} (h : gt_pr A B) (w : gt_fw A B W) (bA : ∀ p ∈ A, (0 ≤ p.1 ∧ p.1 ≤ N) ∧ 0 ≤ p.2 ∧ p.2 ≤ N) (bB : ∀ p ∈ B, (0 ≤ p.1 ∧ p.1 ≤ N) ∧ 0 ≤ p.2 ∧ p.2 ≤ N) : gt_fig W := by
  have sW := gt_way_smp h w.1
  refine ⟨sW, w.1.1, ?_⟩
  obtain ⟨M, hM, hm⟩ := gt_com ((gt_ed A ++ gt_ed B).map (fun e => e.2.2 - e.1.2))
  have hK : 0 < 2 * M := by omega
  have fA : gt_fine M N A := ⟨bA, fun e he n => hm _ (List.mem_map.mpr ⟨e, List.mem_append.mpr (Or.inl he), rfl⟩) n⟩
  have fB : gt_fine M N B := ⟨bB, fun e he n => hm _ (List.mem_map.mpr ⟨e, List.mem_append.mpr (Or.inr he), rfl⟩) n⟩
  have fW : gt_fine M N W := by
    refine ⟨fun p hp => ?_, fun e he n => ?_⟩
    · obtain ⟨b, hb⟩ := gt_out hp
      rcases gt_J_in (w.1.2.2 _ hb) with k | k
      · exact bA p (gt_ed_mem k).1
      · exact bB p (gt_ed_mem k).1
    · rcases gt_J_in (w.1.2.2 _ he) with k | k
      · exact fA.2 e k n
      · exact fB.2 e k n
  have pA := gt_ar_pos hM h.1.1 fA
  have pB := gt_ar_pos hM h.1.2 fB
  have ar := gt_fw_sm h w gt_cc_ar
  rcases gt_k_01 sW w.1.1 with k | k
  · exact k
  · have nn : ∀ z, 0 ≤ -gt_w (W.map (gt_g (2 * M))) z := fun z => by
      have := gt_jordan (gt_g_smp hK sW) (fun e => w.1.1 (List.map_eq_nil_iff.mp e)) z
      rw [gt_g_k hK, k] at this
      omega
    have ge : 0 ≤ gt_lines M N (fun z => -gt_w (W.map (gt_g (2 * M))) z) := (gt_gs_pos (fun j _ => (gt_gs_pos (fun t _ => nn _)).1)).1
    rw [gt_lines_neg, gt_lines_w hM fW] at ge
    have := (gt_sp M (gt_sm gt_ar (gt_ed W))).1 hM (by omega)
    omega
/-- some of the one are in it, and some are common -/
theorem gt_fw_some {A B W : List gt_P} (h : gt_pr A B) (w : gt_fw A B W) : (∃ e ∈ gt_ed A, gt_J A B e) ∧ ∃ e ∈ gt_ed A, gt_rv e ∈ gt_ed B := by
  have sW := gt_way_smp h w.1
  obtain ⟨v, b, c2, r2, e2⟩ := gt_smp_3 sW w.1.1
  have m0 : (v, b) ∈ gt_ed W := by rw [e2]; exact List.mem_cons_self ..
  have l2 : 2 ≤ W.length := by rw [e2]; simp
  obtain ⟨x, y, c, r, e0⟩ := gt_smp_3 h.1.1.1 h.1.1.2.1
  obtain ⟨x', y', c', r', e0'⟩ := gt_smp_3 h.1.2.1 h.1.2.2.1
  have mA : (x, y) ∈ gt_ed A := by rw [e0]; exact List.mem_cons_self ..
  have mB : (x', y') ∈ gt_ed B := by rw [e0']; exact List.mem_cons_self ..
  constructor
  · refine Classical.byContradiction (fun n => ?_)
    have inB : ∀ e ∈ gt_ed W, e ∈ gt_ed B := fun e he => (gt_J_in (w.1.2.2 e he)).resolve_left (fun k => n ⟨e, k, w.1.2.2 e he⟩)
    have all : ∀ e ∈ gt_ed B, e ∈ gt_ed W := by
      refine gt_cyc (P := fun e => e ∈ gt_ed W) (by rw [e0']; simp) (fun a v b h1 h2 ok => ?_) (inB _ m0) m0
      obtain ⟨o, ho⟩ := gt_out (gt_ed_mem ok).2
      have : (v, o) = (v, b) := gt_one1 h.1.2.1 (inB _ ho) h2 rfl
      rw [← this]
      exact ho
    have sh : gt_rv (x, y) ∈ gt_ed B := Classical.byContradiction (fun k => n ⟨_, mA, Or.inl ⟨mA, k⟩⟩)
    exact (gt_J_no h (w.1.2.2 _ (all _ sh))).1 mA
  · refine Classical.byContradiction (fun n => ?_)
    have jA : ∀ e ∈ gt_ed A, e ∈ gt_ed W := fun e he => w.2 e (Or.inl ⟨he, fun k => n ⟨e, he, k⟩⟩)
    have jB : ∀ e ∈ gt_ed B, e ∈ gt_ed W := fun e he => w.2 e (Or.inr ⟨he, fun k => n ⟨gt_rv e, k, he⟩⟩)
    have nov : ∀ v, v ∈ A → v ∉ B := fun v hA hB => by
      obtain ⟨b, hb⟩ := gt_out hA
      obtain ⟨b', hb'⟩ := gt_out hB
      have : (v, b) = (v, b') := gt_nd1 w.1.2.1 (jA _ hb) (jB _ hb') rfl
      rw [this] at hb
      exact gt_pr_no2 h hb hb'
    have all : ∀ e ∈ gt_ed W, e ∈ gt_ed A := by
      refine gt_cyc (P := fun e => e ∈ gt_ed A) l2 (fun a v b h1 h2 ok => ?_) (jA _ mA) mA
      rcases gt_J_in (w.1.2.2 _ h2) with k | k
      · exact k
      · exact absurd (gt_ed_mem k).1 (nov v (gt_ed_mem ok).2)
    exact gt_pr_no2 h (all _ (jB _ mB)) mB
/-- two ways with the same stretches that begin alike -/
theorem gt_same {V W : List gt_P} (hV : V.Nodup) (hW : W.Nodup) (he : ∀ e, e ∈ gt_ed V → e ∈ gt_ed W) (hl : V.length = W.length) (h0 : V.head? = W.head?) : V = W := by
  have key : ∀ (l r : List gt_P) (a p : gt_P), l.length = r.length → (∀ e ∈ gt_pe a (l ++ [p]), e ∈ gt_ed W) → (∀ e ∈ gt_pe a (r ++ [p]), e ∈ gt_ed W) → l = r := by
    intro l
    induction l with
    | nil => intro r a p h1 _ _; exact (List.length_eq_zero_iff.mp h1.symm).symm
    | cons b l ih =>
      intro r a p h1 h2 h3
      cases r with
      | nil => cases h1
      | cons c r =>
        have m1 := h2 (a, b) (List.mem_cons_self ..)
        have m2 := h3 (a, c) (List.mem_cons_self ..)
        have e : b = c := congrArg Prod.snd (gt_nd1 hW m1 m2 rfl)
        subst e
        rw [ih r b p (Nat.succ.inj h1) (fun e he => h2 e (List.mem_cons_of_mem _ he)) (fun e he => h3 e (List.mem_cons_of_mem _ he))]
  cases V with
  | nil => exact (List.length_eq_zero_iff.mp hl.symm).symm
  | cons a l =>
    cases W with
    | nil => cases hl
    | cons c r =>
      have e : a = c := Option.some.inj h0
      subst e
      rw [key l r a a (Nat.succ.inj hl) he (fun e he => he)]
/-- two full ways round are one, turned -/
theorem gt_fw_uni {A B V W : List gt_P} (h : gt_pr A B) (v : gt_fw A B V) (w : gt_fw A B W) : ∃ s t, V = s ++ t ∧ t ++ s = W := by
  cases W with
  | nil => exact absurd rfl w.1.1
  | cons a l =>
    have ma : a ∈ V := by
      obtain ⟨b, hb⟩ := gt_out (List.mem_cons_self .. : a ∈ a :: l)
      exact (gt_ed_mem (v.2 _ (w.1.2.2 _ hb))).1
    obtain ⟨s, t, e⟩ := List.append_of_mem ma
    refine ⟨s, a :: t, e, ?_⟩
    have pm := gt_fw_perm h v
    have pm2 := gt_fw_perm h w
    have len : V.length = (a :: l).length := by
      have := pm.length_eq.trans pm2.length_eq.symm
      rw [gt_ed_len, gt_ed_len] at this
      exact this
    have rot : ∀ f, f ∈ gt_ed ((a :: t) ++ s) ↔ f ∈ gt_ed V := fun f => by rw [e]; exact gt_ed_rot.mem_iff
    refine gt_same ?_ w.1.2.1 (fun f hf => w.2 f (v.1.2.2 f ((rot f).mp hf))) ?_ rfl
    · have := v.1.2.1
      rw [e] at this
      exact (List.perm_append_comm.nodup_iff).mp this
    · rw [← len, e]
      simp
      omega
/-! the class's walk along the edges that are left -/
theorem gt_eg_mem {E : List gt_E} {k : Nat} (h : k < E.length) : g_eg E k ∈ E ∧ E[k]? = some (g_eg E k) := by
  unfold g_eg
  rw [List.getElem?_eq_getElem h]
  exact ⟨List.getElem_mem h, rfl⟩
theorem gt_mem_eg {E : List gt_E} {e : gt_E} (h : e ∈ E) : ∃ k, k < E.length ∧ g_eg E k = e := by
  obtain ⟨k, hk, e1⟩ := List.mem_iff_getElem.mp h
  refine ⟨k, hk, ?_⟩
  unfold g_eg
  rw [List.getElem?_eq_getElem hk]
  exact e1
theorem gt_eg_inj {E : List gt_E} (h : E.Nodup) {i j : Nat} (hi : i < E.length) (hj : j < E.length) (e : g_eg E i = g_eg E j) : i = j := by
  unfold g_eg at e
  rw [List.getElem?_eq_getElem hi, List.getElem?_eq_getElem hj] at e
  exact (List.getElem_inj h).mp e
theorem gt_eg_l {L R : List gt_E} {k : Nat} (h : k < L.length) : g_eg (L ++ R) k = g_eg L k := by
  unfold g_eg
  rw [List.getElem?_append_left h]
theorem gt_eg_r {L R : List gt_E} {k : Nat} : g_eg (L ++ R) (L.length + k) = g_eg R k := by
  unfold g_eg
  rw [List.getElem?_append_right (by omega)]
  congr 2
  omega
theorem gt_mat {E : List gt_E} {i j : Nat} : g_mat E i j = true ↔ g_eg E i = gt_rv (g_eg E j) := by
  unfold g_mat
  rw [Bool.and_eq_true, decide_eq_true_iff, decide_eq_true_iff]
  exact ⟨fun h => Prod.ext h.1 h.2, fun h => ⟨congrArg Prod.fst h, congrArg Prod.snd h⟩⟩
/-- which edges are left -/
theorem gt_shared {A B : List gt_P} (h : gt_pr A B) {k : Nat} (hk : k < (gt_ed A ++ gt_ed B).length) : g_sh (gt_ed A ++ gt_ed B) (gt_ed A).length k = true ↔ ¬ gt_J A B (g_eg (gt_ed A ++ gt_ed B) k) := by
  have rr : ∀ {a b : gt_E}, a = gt_rv b → gt_rv a = b := fun {a b} e => by rw [e, gt_rv_rv]
  rw [List.length_append] at hk
  unfold g_sh
  by_cases c : k < (gt_ed A).length
  · rw [if_pos c, g_any_iff]
    have m : g_eg (gt_ed A ++ gt_ed B) k ∈ gt_ed A := by rw [gt_eg_l c]; exact (gt_eg_mem c).1
    constructor
    · rintro ⟨t, ht, e⟩
      rw [List.length_append] at ht
      rw [gt_mat, gt_eg_r] at e
      intro j
      have := (gt_J_no h j).2
      rw [rr e] at this
      exact this (gt_eg_mem (by omega)).1
    · intro n
      have : gt_rv (g_eg (gt_ed A ++ gt_ed B) k) ∈ gt_ed B := Classical.byContradiction (fun z => n (Or.inl ⟨m, z⟩))
      obtain ⟨t, ht, e⟩ := gt_mem_eg this
      refine ⟨t, by rw [List.length_append]; omega, ?_⟩
      rw [gt_mat, gt_eg_r, e, gt_rv_rv]
  · rw [if_neg c, g_any_iff]
    have ek : k = (gt_ed A).length + (k - (gt_ed A).length) := by omega
    have m : g_eg (gt_ed A ++ gt_ed B) k ∈ gt_ed B := by rw [ek, gt_eg_r]; exact (gt_eg_mem (by omega)).1
    constructor
    · rintro ⟨i, hi, e⟩
      rw [gt_mat, gt_eg_l hi] at e
      intro j
      have := (gt_J_no h j).1
      rw [← e] at this
      exact this (gt_eg_mem hi).1
    · intro n
      have : gt_rv (g_eg (gt_ed A ++ gt_ed B) k) ∈ gt_ed A := Classical.byContradiction (fun z => n (Or.inr ⟨m, z⟩))
      obtain ⟨i, hi, e⟩ := gt_mem_eg this
      exact ⟨i, hi, by rw [gt_mat, gt_eg_l hi, e]⟩
theorem gt_E_nd {A B : List gt_P} (h : gt_pr A B) : (gt_ed A ++ gt_ed B).Nodup := by
  refine List.nodup_append.mpr ⟨gt_ed_nd (gt_smp_nd h.1.1.1), gt_ed_nd (gt_smp_nd h.1.2.1), fun a ha b hb e => ?_⟩
  rw [e] at ha
  exact gt_pr_no2 h ha hb
theorem gt_okE {A B : List gt_P} (h : gt_pr A B) {p : gt_P} {k : Nat} (hk : k < (gt_ed A ++ gt_ed B).length) : g_okE (gt_ed A ++ gt_ed B) (gt_ed A).length p k = true ↔ gt_J A B (g_eg (gt_ed A ++ gt_ed B) k) ∧ (g_eg (gt_ed A ++ gt_ed B) k).1 = p := by
  unfold g_okE
  rw [Bool.and_eq_true, decide_eq_true_iff, Bool.not_eq_true', ← Bool.not_eq_true, gt_shared h hk, Classical.not_not]
theorem gt_1of {l : List Nat} {i : Nat} : g_1of l = (i : Int) ↔ l = [i] := by
  match l with
  | [] => exact ⟨fun e => by exfalso; have e : (-1 : Int) = i := e; omega, fun e => by cases e⟩
  | [j] => exact ⟨fun e => by have e : (j : Int) = i := e; rw [show j = i by omega], fun e => by injection e with e; rw [e]; rfl⟩
  | _ :: _ :: _ => exact ⟨fun e => by exfalso; have e : (-1 : Int) = i := e; omega, fun e => by injection e with _ e; cases e⟩
theorem gt_1of_neg {l : List Nat} : -1 ≤ g_1of l := by
  match l with
  | [] => exact Int.le_refl _
  | [j] => show -1 ≤ (j : Int); omega
  | _ :: _ :: _ => exact Int.le_refl _
/-- the only edge from a point -/
theorem gt_only {A B : List gt_P} (h : gt_pr A B) {p : gt_P} {i : Nat} : g_only (gt_ed A ++ gt_ed B) (gt_ed A).length p = (i : Int) ↔ i < (gt_ed A ++ gt_ed B).length ∧ (gt_J A B (g_eg (gt_ed A ++ gt_ed B) i) ∧ (g_eg (gt_ed A ++ gt_ed B) i).1 = p) ∧ ∀ e, gt_J A B e → e.1 = p → e = g_eg (gt_ed A ++ gt_ed B) i := by
  generalize hE : gt_ed A ++ gt_ed B = E
  have nd : E.Nodup := by rw [← hE]; exact gt_E_nd h
  have ok : ∀ {k : Nat}, k < E.length → (g_okE E (gt_ed A).length p k = true ↔ gt_J A B (g_eg E k) ∧ (g_eg E k).1 = p) := fun {k} hk => by
    rw [← hE] at hk ⊢
    exact gt_okE h hk
  unfold g_only
  rw [gt_1of]
  constructor
  · intro e
    have m : i ∈ (List.range E.length).filter (g_okE E (gt_ed A).length p) := by rw [e]; exact List.mem_cons_self ..
    rw [List.mem_filter, List.mem_range] at m
    refine ⟨m.1, (ok m.1).mp m.2, fun f jf q => ?_⟩
    have mf : f ∈ E := by
      rw [← hE]
      rcases gt_J_in jf with k | k
      · exact List.mem_append.mpr (Or.inl k)
      · exact List.mem_append.mpr (Or.inr k)
    obtain ⟨k, hk, ek⟩ := gt_mem_eg mf
    have m2 : k ∈ (List.range E.length).filter (g_okE E (gt_ed A).length p) := by
      rw [List.mem_filter, List.mem_range]
      exact ⟨hk, (ok hk).mpr (by rw [ek]; exact ⟨jf, q⟩)⟩
    rw [e] at m2
    rw [← ek, List.mem_singleton.mp m2]
  · rintro ⟨hi, a, u⟩
    have n2 : ((List.range E.length).filter (g_okE E (gt_ed A).length p)).Nodup := List.nodup_range.filter _
    have : ((List.range E.length).filter (g_okE E (gt_ed A).length p)).Perm [i] := (List.perm_ext_iff_of_nodup n2 (List.nodup_cons.mpr ⟨by simp, List.nodup_nil⟩)).mpr (fun k => by
      rw [List.mem_filter, List.mem_range, List.mem_singleton]
      constructor
      · rintro ⟨hk, k2⟩
        have := (ok hk).mp k2
        exact gt_eg_inj nd hk hi (u _ this.1 this.2)
      · intro e
        rw [e]
        exact ⟨hi, (ok hi).mpr a⟩)
    exact List.perm_singleton.mp this
theorem gt_only_i {A B : List gt_P} {p : gt_P} (n : ¬ g_only (gt_ed A ++ gt_ed B) (gt_ed A).length p < 0) : g_only (gt_ed A ++ gt_ed B) (gt_ed A).length p = ((g_only (gt_ed A ++ gt_ed B) (gt_ed A).length p).toNat : Int) := by omega
/-- what a walk that ends has gone along -/
theorem gt_wlk {A B : List gt_P} (h : gt_pr A B) {s : Nat} : ∀ {n e : Nat} {acc R : List gt_P}, e < (gt_ed A ++ gt_ed B).length → gt_J A B (g_eg (gt_ed A ++ gt_ed B) e) → g_wlk (gt_ed A ++ gt_ed B) (gt_ed A).length s n e acc = some R → ∃ l, R = acc ++ (g_eg (gt_ed A ++ gt_ed B) e).1 :: l ∧ l.length + 1 = n ∧ (∀ f ∈ gt_pe (g_eg (gt_ed A ++ gt_ed B) e).1 (l ++ [(g_eg (gt_ed A ++ gt_ed B) s).1]), gt_J A B f) ∧ ∀ p ∈ l, p ≠ (g_eg (gt_ed A ++ gt_ed B) s).1 ∧ ∀ q q', gt_J A B (p, q) → gt_J A B (p, q') → q = q'
  | 0, e, acc, R, _, _, hr => by cases hr
  | n + 1, e, acc, R, he, je, hr => by
    unfold g_wlk at hr
    by_cases c : g_only (gt_ed A ++ gt_ed B) (gt_ed A).length (g_eg (gt_ed A ++ gt_ed B) e).2 < 0
    · rw [if_pos c] at hr; cases hr
    rw [if_neg c] at hr
    obtain ⟨k1, ⟨k2, k3⟩, k4⟩ := (gt_only h).mp (gt_only_i c)
    by_cases c2 : g_only (gt_ed A ++ gt_ed B) (gt_ed A).length (g_eg (gt_ed A ++ gt_ed B) e).2 = (s : Int)
    · rw [if_pos c2] at hr
      by_cases c3 : n = 0
      · rw [if_pos c3] at hr
        have hr := Option.some.inj hr
        rw [show (g_only (gt_ed A ++ gt_ed B) (gt_ed A).length (g_eg (gt_ed A ++ gt_ed B) e).2).toNat = s by omega] at k3
        refine ⟨[], hr.symm, by rw [c3]; rfl, fun f hf => ?_, fun p hp => by cases hp⟩
        have hf : f ∈ [((g_eg (gt_ed A ++ gt_ed B) e).1, (g_eg (gt_ed A ++ gt_ed B) s).1)] := hf
        rw [List.mem_singleton.mp hf, k3]
        exact je
      · rw [if_neg c3] at hr; cases hr
    · rw [if_neg c2] at hr
      obtain ⟨l, r1, r2, r3, r4⟩ := gt_wlk h k1 k2 hr
      rw [k3] at r1 r3
      refine ⟨(g_eg (gt_ed A ++ gt_ed B) e).2 :: l, by rw [r1]; simp, by rw [List.length_cons, r2], fun f hf => ?_, fun p hp => ?_⟩
      · rcases List.mem_cons.mp hf with k | k
        · rw [k]; exact je
        · exact r3 f k
      · rcases List.mem_cons.mp hp with k | k
        · rw [k]
          refine ⟨fun z => ?_, fun q q' a b => ?_⟩
          · -- the last edge's end has the start as its only edge
            have last : ∀ {n e : Nat} {acc R : List gt_P}, g_wlk (gt_ed A ++ gt_ed B) (gt_ed A).length s n e acc = some R → ∃ p, g_only (gt_ed A ++ gt_ed B) (gt_ed A).length p = (s : Int) := by
              intro n
              induction n with
              | zero => intro e acc R hr; cases hr
              | succ n ih =>
                intro e acc R hr
                unfold g_wlk at hr
                by_cases d : g_only (gt_ed A ++ gt_ed B) (gt_ed A).length (g_eg (gt_ed A ++ gt_ed B) e).2 < 0
                · rw [if_pos d] at hr; cases hr
                rw [if_neg d] at hr
                by_cases d2 : g_only (gt_ed A ++ gt_ed B) (gt_ed A).length (g_eg (gt_ed A ++ gt_ed B) e).2 = (s : Int)
                · exact ⟨_, d2⟩
                · rw [if_neg d2] at hr
                  exact ih hr
            obtain ⟨p0, hp0⟩ := last hr
            have := ((gt_only h).mp hp0).2.1.2
            rw [← this, ← z] at hp0
            exact c2 hp0
          · have e1 := k4 _ a rfl
            have e2 := k4 _ b rfl
            have := e1.trans e2.symm
            exact congrArg Prod.snd this
        · exact r4 p k
/-- from a corner on the way is one -/
theorem gt_det {J : gt_E → Prop} {p0 : gt_P} : ∀ {l v : List gt_P} {a : gt_P}, (∀ q q', J (a, q) → J (a, q') → q = q') → (∀ p ∈ l, p ≠ p0 ∧ ∀ q q', J (p, q) → J (p, q') → q = q') → (∀ p ∈ v, p ≠ p0) → (∀ f ∈ gt_pe a (l ++ [p0]), J f) → (∀ f ∈ gt_pe a (v ++ [p0]), J f) → l = v
  | [], [], _, _, _, _, _, _ => rfl
  | [], b :: v, a, u, _, h2, h3, h4 => by
    have := u _ _ (h3 (a, p0) (List.mem_cons_self ..)) (h4 (a, b) (List.mem_cons_self ..))
    exact absurd this.symm (h2 b (List.mem_cons_self ..))
  | b :: l, [], a, u, h1, _, h3, h4 => by
    have := u _ _ (h3 (a, b) (List.mem_cons_self ..)) (h4 (a, p0) (List.mem_cons_self ..))
    exact absurd this (h1 b (List.mem_cons_self ..)).1
  | b :: l, c :: v, a, u, h1, h2, h3, h4 => by
    have e := u _ _ (h3 (a, b) (List.mem_cons_self ..)) (h4 (a, c) (List.mem_cons_self ..))
    subst e
    rw [gt_det (h1 b (List.mem_cons_self ..)).2 (fun p hp => h1 p (List.mem_cons_of_mem _ hp)) (fun p hp => h2 p (List.mem_cons_of_mem _ hp)) (fun f hf => h3 f (List.mem_cons_of_mem _ hf)) (fun f hf => h4 f (List.mem_cons_of_mem _ hf))]
theorem gt_det_nd {J : gt_E → Prop} {p0 : gt_P} : ∀ {l : List gt_P} {a : gt_P}, (∀ p ∈ l, p ≠ p0 ∧ ∀ q q', J (p, q) → J (p, q') → q = q') → (∀ f ∈ gt_pe a (l ++ [p0]), J f) → l.Nodup
  | [], _, _, _ => List.nodup_nil
  | b :: l, a, h1, h2 => by
    have h2' : ∀ f ∈ gt_pe b (l ++ [p0]), J f := fun f hf => h2 f (List.mem_cons_of_mem _ hf)
    have h1' : ∀ p ∈ l, p ≠ p0 ∧ ∀ q q', J (p, q) → J (p, q') → q = q' := fun p hp => h1 p (List.mem_cons_of_mem _ hp)
    refine List.nodup_cons.mpr ⟨fun m => ?_, gt_det_nd h1' h2'⟩
    obtain ⟨u, v, e⟩ := List.append_of_mem m
    have hv : ∀ f ∈ gt_pe b (v ++ [p0]), J f := fun f hf => by
      refine h2' f ?_
      rw [e, List.append_assoc, gt_pe_app]
      refine List.mem_append.mpr (Or.inr ?_)
      show f ∈ (gt_ls b u, b) :: gt_pe b (v ++ [p0])
      exact List.mem_cons_of_mem _ hf
    have := gt_det (h1 b (List.mem_cons_self ..)).2 h1' (fun p hp => (h1' p (by rw [e]; exact List.mem_append.mpr (Or.inr (List.mem_cons_of_mem _ hp)))).1) h2' hv
    have := congrArg List.length (e.symm.trans this)
    simp at this
    omega
theorem gt_ct_row {L : List gt_E} {P : gt_E → Bool} {x : gt_E} (hP : ∀ e, P e = true ↔ e = x) (nd : L.Nodup) : ∀ {m : Nat}, m ≤ L.length → g_cnt (fun t => P (g_eg L t)) m = if x ∈ L.take m then 1 else 0
  | 0, _ => by rw [List.take_zero, if_neg (by simp)]; rfl
  | m + 1, hm => by
    show g_cnt (fun t => P (g_eg L t)) m + (if P (g_eg L m) = true then 1 else 0) = _
    have tk : L.take (m + 1) = L.take m ++ [g_eg L m] := by
      rw [List.take_add_one, (gt_eg_mem (by omega)).2]
      rfl
    rw [gt_ct_row hP nd (by omega), tk]
    have nd2 : (L.take m ++ [g_eg L m]).Nodup := by rw [← tk]; exact nd.sublist (List.take_sublist _ _)
    have dis := (List.nodup_append.mp nd2).2.2
    by_cases c : P (g_eg L m) = true
    · have c2 := (hP _).mp c
      rw [if_pos c, if_neg (fun z => dis x z _ (List.mem_singleton.mpr rfl) c2.symm), if_pos (by rw [c2]; exact List.mem_append.mpr (Or.inr (List.mem_singleton.mpr rfl)))]
    · rw [if_neg c]
      have c2 : x ∈ L.take m ++ [g_eg L m] ↔ x ∈ L.take m := by
        rw [List.mem_append, List.mem_singleton]
        exact ⟨fun z => z.resolve_right (fun w => c ((hP _).mpr w.symm)), Or.inl⟩
      by_cases c3 : x ∈ L.take m
      · rw [if_pos c3, if_pos (c2.mpr c3)]
      · rw [if_neg c3, if_neg (fun z => c3 (c2.mp z))]
theorem gt_cnt_cg {f g : Nat → Bool} : ∀ {n : Nat}, (∀ i, i < n → f i = g i) → g_cnt f n = g_cnt g n
  | 0, _ => rfl
  | n + 1, h => by
    show g_cnt f n + (if f n = true then 1 else 0) = g_cnt g n + (if g n = true then 1 else 0)
    rw [gt_cnt_cg (fun i hi => h i (by omega)), h n (by omega)]
/-- how many are common -/
theorem gt_ct {A B : List gt_P} (h : gt_pr A B) : ∀ {n : Nat}, n ≤ (gt_ed A).length → g_ct (gt_ed A ++ gt_ed B) (gt_ed A).length (gt_ed B).length n = (((gt_ed A).take n).filter (fun e => decide (gt_rv e ∈ gt_ed B))).length
  | 0, _ => by rw [List.take_zero]; rfl
  | n + 1, hn => by
    show g_ct (gt_ed A ++ gt_ed B) (gt_ed A).length (gt_ed B).length n + g_cnt (fun t => g_mat (gt_ed A ++ gt_ed B) n ((gt_ed A).length + t)) (gt_ed B).length = _
    have tk : (gt_ed A).take (n + 1) = (gt_ed A).take n ++ [g_eg (gt_ed A) n] := by
      rw [List.take_add_one, (gt_eg_mem (by omega)).2]
      rfl
    have row : g_cnt (fun t => g_mat (gt_ed A ++ gt_ed B) n ((gt_ed A).length + t)) (gt_ed B).length = if gt_rv (g_eg (gt_ed A) n) ∈ gt_ed B then 1 else 0 := by
      have e1 : g_cnt (fun t => g_mat (gt_ed A ++ gt_ed B) n ((gt_ed A).length + t)) (gt_ed B).length = g_cnt (fun t => (fun e => decide (e = gt_rv (g_eg (gt_ed A) n))) (g_eg (gt_ed B) t)) (gt_ed B).length := gt_cnt_cg (fun t _ => by
        rw [Bool.eq_iff_iff, gt_mat, gt_eg_l (by omega), gt_eg_r, decide_eq_true_iff]
        exact ⟨fun e => by rw [e, gt_rv_rv], fun e => by rw [e, gt_rv_rv]⟩)
      rw [e1, gt_ct_row (x := gt_rv (g_eg (gt_ed A) n)) (fun e => decide_eq_true_iff) (gt_ed_nd (gt_smp_nd h.1.2.1)) (Nat.le_refl _), List.take_length]
    rw [gt_ct h (by omega), row, tk, List.filter_append, List.length_append]
    congr 1
    by_cases c : gt_rv (g_eg (gt_ed A) n) ∈ gt_ed B
    · rw [if_pos c, List.filter_cons_of_pos (by simp [c])]; rfl
    · rw [if_neg c, List.filter_cons_of_neg (by simp [c])]; rfl
theorem gt_J_len {A B : List gt_P} (h : gt_pr A B) : ((gt_JA A B ++ gt_JA B A).length : Int) = ((gt_ed A ++ gt_ed B).length : Int) - 2 * (g_ct (gt_ed A ++ gt_ed B) (gt_ed A).length ((gt_ed A ++ gt_ed B).length - (gt_ed A).length) (gt_ed A).length : Int) := by
  have part : ∀ {L R : List gt_E}, (L.filter (fun e => decide (gt_rv e ∉ R))).length + (L.filter (fun e => decide (gt_rv e ∈ R))).length = L.length := fun {L R} => by
    induction L with
    | nil => rfl
    | cons e L ih =>
      by_cases k : gt_rv e ∈ R
      · rw [List.filter_cons_of_neg (by simp [k]), List.filter_cons_of_pos (by simp [k]), List.length_cons, List.length_cons]; omega
      · rw [List.filter_cons_of_pos (by simp [k]), List.filter_cons_of_neg (by simp [k]), List.length_cons, List.length_cons]; omega
  rw [List.length_append, List.length_append, show (gt_ed A).length + (gt_ed B).length - (gt_ed A).length = (gt_ed B).length by omega, gt_ct h (Nat.le_refl _), List.take_length]
  have p1 := part (L := gt_ed A) (R := gt_ed B)
  have p2 := part (L := gt_ed B) (R := gt_ed A)
  have q := (gt_cancel gt_cc_ar (gt_ed_nd (gt_smp_nd h.1.1.1)) (gt_ed_nd (gt_smp_nd h.1.2.1))).2
  unfold gt_JA
  omega
/-- the class's walk, if it ends well, is full -/
theorem gt_cls_fw {A B : List gt_P} (h : gt_pr A B) {s : Nat} {R : List gt_P} (hs : s < (gt_ed A).length) (ns : g_sh (gt_ed A ++ gt_ed B) (gt_ed A).length s = false) (hr : g_wlk (gt_ed A ++ gt_ed B) (gt_ed A).length s (gt_JA A B ++ gt_JA B A).length s [] = some R) : gt_fw A B R := by
  have hs2 : s < (gt_ed A ++ gt_ed B).length := by rw [List.length_append]; omega
  have js : gt_J A B (g_eg (gt_ed A ++ gt_ed B) s) := Classical.byContradiction (fun z => by
    rw [(gt_shared h hs2).mpr z] at ns
    cases ns)
  obtain ⟨l, r1, r2, r3, r4⟩ := gt_wlk h hs2 js hr
  rw [List.nil_append] at r1
  have eR : gt_ed R = gt_pe (g_eg (gt_ed A ++ gt_ed B) s).1 (l ++ [(g_eg (gt_ed A ++ gt_ed B) s).1]) := by rw [r1]; rfl
  have w : gt_way A B R := by
    refine ⟨by rw [r1]; simp, ?_, fun e he => r3 e (by rw [← eR]; exact he)⟩
    rw [r1]
    exact List.nodup_cons.mpr ⟨fun m => (r4 _ m).1 rfl, gt_det_nd r4 r3⟩
  refine ⟨w, fun e je => ?_⟩
  have sub : ∀ f ∈ gt_ed R, f ∈ gt_JA A B ++ gt_JA B A := fun f hf => gt_J_list.mp (w.2.2 f hf)
  have len : (gt_ed R).length = (gt_JA A B ++ gt_JA B A).length := by rw [gt_ed_len, r1, List.length_cons, r2]
  refine Classical.byContradiction (fun n => ?_)
  have sub2 : ∀ f ∈ e :: gt_ed R, f ∈ gt_JA A B ++ gt_JA B A := fun f hf => by
    rcases List.mem_cons.mp hf with k | k
    · rw [k]; exact gt_J_list.mp je
    · exact sub f k
  have nd : (e :: gt_ed R).Nodup := List.nodup_cons.mpr ⟨n, gt_ed_nd w.2.1⟩
  have := List.Nodup.length_le_of_subset nd sub2
  rw [List.length_cons] at this
  omega
