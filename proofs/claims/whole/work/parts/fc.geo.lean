/-! geometry: a way with the area of both is full -/
/-! a way round that has the area of both has all that is not common -/
theorem gt_pr_no2 {A B : List gt_P} (h : gt_pr A B) {e : gt_E} (he : e ∈ gt_ed A) : e ∉ gt_ed B := fun k => by
  obtain ⟨a, ha⟩ := gt_into (gt_ed_mem he).1
  obtain ⟨a', ha'⟩ := gt_into (gt_ed_mem k).1
  exact (gt_cor h (a := a) (v := e.1) (b := e.2) (a' := a') (b' := e.2) ha he ha' k).2.2.1.2 gt_sd_refl
theorem gt_J_spk {A B : List gt_P} (h : gt_pr A B) {e f : gt_E} (je : gt_J A B e) (jf : gt_J A B f) (q : e.2 = f.1) : ¬ gt_sd (gt_d e.2 e.1) (gt_d e.2 f.2) := by
  have other : ∀ {A B : List gt_P}, gt_pr A B → gt_J A B f → e ∈ gt_ed A → f ∈ gt_ed B → ¬ gt_sd (gt_d e.2 e.1) (gt_d e.2 f.2) := by
    intro A B h jf ke kf s
    have e1 : e.1 = f.2 := gt_pr_dir h (Or.inr ke) (Or.inl (by rw [q]; exact kf)) s
    have r : gt_rv f = e := Prod.ext e1.symm q.symm
    have := (gt_J_no h jf).1
    rw [r] at this
    exact this ke
  rcases gt_J_in je with ke | ke
  · rcases gt_J_in jf with kf | kf
    · exact (gt_spk h.1.1.1 h.1.1.2.1 ke kf q).2.2
    · exact other h jf ke kf
  · rcases gt_J_in jf with kf | kf
    · exact other (gt_pr_sw h) (gt_J_sw jf) ke kf
    · exact (gt_spk h.1.2.1 h.1.2.2.1 ke kf q).2.2
theorem gt_V_suc {A B W : List gt_P} (h : gt_pr A B) (w : gt_way A B W) {e : gt_E} (j : gt_J A B e) (n : e ∉ gt_ed W) : ∃ f, (gt_J A B f ∧ f ∉ gt_ed W) ∧ f.1 = e.2 := by
  have key : ∀ {A B : List gt_P}, gt_pr A B → gt_way A B W → gt_J A B e → e ∈ gt_ed A → ∃ f, (gt_J A B f ∧ f ∉ gt_ed W) ∧ f.1 = e.2 := by
    intro A B h w j ke
    obtain ⟨b, hb⟩ := gt_out (gt_ed_mem ke).2
    obtain ⟨s1, s2⟩ := gt_J_stp h (u := e.1) (v := e.2) j ke
    by_cases c : e.2 ∈ B
    · obtain ⟨a', ha'⟩ := gt_into c
      obtain ⟨b', hb'⟩ := gt_out c
      have jb' := s1 b' hb'
      by_cases k : (e.2, b') ∈ gt_ed W
      · obtain ⟨i, hi⟩ := gt_into (gt_ed_mem k).1
        have ji := w.2.2 _ hi
        rcases gt_J_in ji with ki | ki
        · have : (i, e.2) = e := gt_one2 h.1.1.1 ki ke rfl
          rw [this] at hi
          exact absurd hi n
        · have e1 : i = a' := congrArg Prod.fst (gt_one2 h.1.2.1 ki ha' rfl)
          subst e1
          refine ⟨(e.2, b), ⟨Or.inl ⟨hb, fun z => ?_⟩, fun z => ?_⟩, rfl⟩
          · have e2 : b = i := congrArg Prod.fst (gt_one2 h.1.2.1 z ha' rfl)
            subst e2
            exact (gt_J_no h ji).1 hb
          · have e2 : b = b' := congrArg Prod.snd (gt_nd1 w.2.1 z k rfl)
            subst e2
            exact gt_pr_no2 h hb hb'
      · exact ⟨_, ⟨jb', k⟩, rfl⟩
    · refine ⟨(e.2, b), ⟨s2 c b hb, fun z => ?_⟩, rfl⟩
      obtain ⟨i, hi⟩ := gt_into (gt_ed_mem z).1
      rcases gt_J_in (w.2.2 _ hi) with ki | ki
      · have : (i, e.2) = e := gt_one2 h.1.1.1 ki ke rfl
        rw [this] at hi
        exact n hi
      · exact c (gt_ed_mem ki).2
  rcases gt_J_in j with k | k
  · exact key h w j k
  · obtain ⟨f, ⟨f1, f2⟩, f3⟩ := key (gt_pr_sw h) (gt_way_sw w) (gt_J_sw j) k
    exact ⟨f, ⟨gt_J_sw f1, f2⟩, f3⟩
theorem gt_V_pre {A B W : List gt_P} (h : gt_pr A B) (w : gt_way A B W) {e : gt_E} (j : gt_J A B e) (n : e ∉ gt_ed W) : ∃ f, (gt_J A B f ∧ f ∉ gt_ed W) ∧ f.2 = e.1 := by
  have key : ∀ {A B : List gt_P}, gt_pr A B → gt_way A B W → gt_J A B e → e ∈ gt_ed A → ∃ f, (gt_J A B f ∧ f ∉ gt_ed W) ∧ f.2 = e.1 := by
    intro A B h w j ke
    obtain ⟨a, ha⟩ := gt_into (gt_ed_mem ke).1
    by_cases c : e.1 ∈ B
    · obtain ⟨a', ha'⟩ := gt_into c
      obtain ⟨b', hb'⟩ := gt_out c
      have ja' : gt_J A B (a', e.1) := Or.inr ⟨ha', fun z => by
        have e1 : a' = e.2 := congrArg Prod.snd (gt_one1 h.1.1.1 z ke rfl)
        rw [e1] at ha'
        exact (gt_J_no h j).2 ha'⟩
      by_cases k : (a', e.1) ∈ gt_ed W
      · obtain ⟨o, ho⟩ := gt_out (gt_ed_mem k).2
        have jo := w.2.2 _ ho
        rcases gt_J_in jo with ko | ko
        · have : (e.1, o) = e := gt_one1 h.1.1.1 ko ke rfl
          rw [this] at ho
          exact absurd ho n
        · refine ⟨(a, e.1), ⟨Or.inl ⟨ha, fun z => ?_⟩, fun z => ?_⟩, rfl⟩
          · have e2 : a = o := congrArg Prod.snd (gt_one1 h.1.2.1 z ko rfl)
            subst e2
            exact (gt_J_no h jo).1 ha
          · have e2 : a = a' := congrArg Prod.fst (gt_nd2 w.2.1 z k rfl)
            subst e2
            exact gt_pr_no2 h ha ha'
      · exact ⟨_, ⟨ja', k⟩, rfl⟩
    · refine ⟨(a, e.1), ⟨Or.inl ⟨ha, fun z => c (gt_ed_mem z).1⟩, fun z => ?_⟩, rfl⟩
      obtain ⟨o, ho⟩ := gt_out (gt_ed_mem z).2
      rcases gt_J_in (w.2.2 _ ho) with ko | ko
      · have : (e.1, o) = e := gt_one1 h.1.1.1 ko ke rfl
        rw [this] at ho
        exact n ho
      · exact c (gt_ed_mem ko).1
  rcases gt_J_in j with k | k
  · exact key h w j k
  · obtain ⟨f, ⟨f1, f2⟩, f3⟩ := key (gt_pr_sw h) (gt_way_sw w) (gt_J_sw j) k
    exact ⟨f, ⟨gt_J_sw f1, f2⟩, f3⟩
theorem gt_ggK {K L : Int} {p : gt_P} : gt_g K (gt_g L p) = gt_g (K * L) p := Prod.ext (by show K * (L * p.1) = K * L * p.1; grind) (by show K * (L * p.2) = K * L * p.2; grind)
theorem gt_map_ggK {K L : Int} {l : List gt_P} : (l.map (gt_g L)).map (gt_g K) = l.map (gt_g (K * L)) := by
  rw [List.map_map]
  exact List.map_congr_left (fun p _ => gt_ggK)
theorem gt_O_end {v b q r : gt_P} (h : gt_O v b q) (k : gt_O v b r) (o : gt_O q r v) : q = v ∨ r = v := by
  rcases gt_O_ord h k with c | c
  · exact Or.inl (gt_O_anti (gt_O_sw c) (gt_O_sw o))
  · exact Or.inr (gt_O_anti (gt_O_sw c) o)
/-- all along a stretch that is not on the way round it is as in its middle -/
theorem gt_w_in {A B W : List gt_P} (h : gt_pr A B) (w : gt_way A B W) {e : gt_E} (he : e ∈ gt_ed A ∨ e ∈ gt_ed B) (nW : e ∉ gt_ed W) {M : Int} (hM : 0 < M) {z : gt_P} (o : gt_O (gt_g (2 * M) e.1) (gt_g (2 * M) e.2) z) (n1 : z ≠ gt_g (2 * M) e.1) (n2 : z ≠ gt_g (2 * M) e.2) : gt_w (W.map (gt_g (2 * M))) z = gt_w (W.map (gt_g 2)) (gt_mid e) := by
  have ne : e.1 ≠ e.2 := by
    rcases he with k | k
    · exact gt_ne h.1.1.1 k
    · exact gt_ne h.1.2.1 k
  obtain ⟨q1, q2, q3⟩ := gt_g2_mid ne
  have q1 : gt_O (gt_g 2 e.1) (gt_g 2 e.2) (gt_mid e) := q1
  have q2 : gt_mid e ≠ gt_g 2 e.2 := q2
  have q3 : gt_mid e ≠ gt_g 2 e.1 := q3
  have e0 : gt_w (W.map (gt_g 2)) (gt_mid e) = gt_w (W.map (gt_g (2 * M))) (gt_g M (gt_mid e)) := by
    rw [← gt_g_w hM, gt_map_ggK, Int.mul_comm]
  have p1 : gt_O (gt_g (2 * M) e.1) (gt_g (2 * M) e.2) (gt_g M (gt_mid e)) := by
    have := (gt_g_O hM).mpr q1
    rw [gt_ggK, gt_ggK, Int.mul_comm] at this
    exact this
  have p2 : gt_g M (gt_mid e) ≠ gt_g (2 * M) e.2 := fun t => by
    rw [Int.mul_comm, ← gt_ggK] at t
    exact q2 (gt_g_inj hM t)
  have p3 : gt_g M (gt_mid e) ≠ gt_g (2 * M) e.1 := fun t => by
    rw [Int.mul_comm, ← gt_ggK] at t
    exact q3 (gt_g_inj hM t)
  rw [e0]
  refine gt_w_const (fun g' hg' m => ?_)
  rw [gt_ed_map] at hg'
  obtain ⟨g, hg, e1⟩ := List.mem_map.mp hg'
  rw [← e1] at m
  obtain ⟨K, hK, q, z1, z2⟩ := gt_M_ex m
  have o' := (gt_g_O hK).mpr o
  have p1' := (gt_g_O hK).mpr p1
  have oe := gt_O_cv o' p1' z1
  rw [gt_ggK, gt_ggK] at oe z2
  rcases gt_tp h he (w.2.2 g hg) (fun t => nW (by rw [t]; exact hg)) (Int.mul_pos hK (by omega)) oe z2 with t | t
  · rw [t, ← gt_ggK] at z1
    rcases gt_O_end o' p1' z1 with k | k
    · exact n1 (gt_g_inj hK k)
    · exact p3 (gt_g_inj hK k)
  · rw [t, ← gt_ggK] at z1
    rcases gt_O_end (gt_O_sw o') (gt_O_sw p1') z1 with k | k
    · exact n2 (gt_g_inj hK k)
    · exact p2 (gt_g_inj hK k)
def gt_D (K : Int) (A B W : List gt_P) (z : gt_P) : Int := gt_w (W.map (gt_g K)) z + -(gt_w (A.map (gt_g K)) z + gt_w (B.map (gt_g K)) z)
theorem gt_D_sw {K : Int} {A B W : List gt_P} {z : gt_P} : gt_D K B A W z = gt_D K A B W z := by unfold gt_D; omega
/-- the way on along a line, to the left -/
theorem gt_D_st {A B W : List gt_P} (h : gt_pr A B) (w : gt_way A B W) {M : Int} {N : Nat} (hM : 0 < M) (fA : gt_fine M N A) (fB : gt_fine M N B) (fW : gt_fine M N W) (ok : ∀ e, gt_J A B e → gt_ok W e) {j x : Int} (h0 : 0 ≤ gt_D (2 * M) A B W (x, 2 * M * j + M)) : 0 ≤ gt_D (2 * M) A B W (x - 1, 2 * M * j + M) := by
  have hK : 0 < 2 * M := by omega
  have dl0 : ∀ {l : List gt_P}, gt_fine M N l → (∀ f ∈ gt_ed l, ¬ gt_O (gt_g (2 * M) f.1) (gt_g (2 * M) f.2) (x, 2 * M * j + M)) → gt_w (l.map (gt_g (2 * M))) (x - 1, 2 * M * j + M) = gt_w (l.map (gt_g (2 * M))) (x, 2 * M * j + M) := fun {l} fl hn => by
    refine gt_dl0 (gt_line_dv fl j) (fun f' hf' o => ?_)
    rw [gt_ed_map] at hf'
    obtain ⟨f, hf, e1⟩ := List.mem_map.mp hf'
    rw [← e1] at o
    exact hn f hf o
  have dl1 : ∀ {l : List gt_P}, gt_smp l → gt_fine M N l → ∀ f ∈ gt_ed l, gt_O (gt_g (2 * M) f.1) (gt_g (2 * M) f.2) (x, 2 * M * j + M) → gt_w (l.map (gt_g (2 * M))) (x - 1, 2 * M * j + M) - gt_w (l.map (gt_g (2 * M))) (x, 2 * M * j + M) = gt_c (x - 1, 2 * M * j + M) (gt_g (2 * M) f.1) (gt_g (2 * M) f.2) - gt_c (x, 2 * M * j + M) (gt_g (2 * M) f.1) (gt_g (2 * M) f.2) := fun {l} hs fl f hf o => by
    refine gt_dl1 (e := (gt_g (2 * M) f.1, gt_g (2 * M) f.2)) (gt_g_smp hK hs) (gt_line_dv fl j) ?_ o (fun p hp => ?_)
    · rw [gt_ed_map]
      exact List.mem_map.mpr ⟨f, hf, rfl⟩
    · obtain ⟨q, _, q2⟩ := List.mem_map.mp hp
      rw [← q2]
      exact gt_line_v hM
  have nv : ∀ {p : gt_P}, ¬ ((x, 2 * M * j + M) : gt_P) = gt_g (2 * M) p := gt_line_v hM
  -- only one is there
  have tp1 : ∀ {A B : List gt_P}, gt_pr A B → ∀ {e g : gt_E}, (e ∈ gt_ed A ∨ e ∈ gt_ed B) → gt_J A B g → e ≠ g → gt_O (gt_g (2 * M) e.1) (gt_g (2 * M) e.2) (x, 2 * M * j + M) → ¬ gt_O (gt_g (2 * M) g.1) (gt_g (2 * M) g.2) (x, 2 * M * j + M) := fun {A B} h {e g} he hg ne o1 o2 => by
    rcases gt_tp h he hg ne hK o1 o2 with k | k
    · exact nv k
    · exact nv k
  by_cases c : ∃ e, gt_J A B e ∧ e ∉ gt_ed W ∧ gt_O (gt_g (2 * M) e.1) (gt_g (2 * M) e.2) (x, 2 * M * j + M)
  · obtain ⟨e, je, nW, o⟩ := c
    have a := dl0 fW (fun f hf => tp1 h (gt_J_in je) (w.2.2 f hf) (fun t => nW (by rw [t]; exact hf)) o)
    have b := gt_w_in h w (gt_J_in je) nW hM o nv nv
    have c := (ok e je).resolve_left nW
    have d := (h.2.1 (2 * M) (x - 1, 2 * M * j + M) hK).1
    unfold gt_D
    omega
  · have same : ∀ {A B : List gt_P}, gt_pr A B → gt_way A B W → gt_fine M N A → gt_fine M N B → (¬ ∃ e, gt_J A B e ∧ e ∉ gt_ed W ∧ gt_O (gt_g (2 * M) e.1) (gt_g (2 * M) e.2) (x, 2 * M * j + M)) → ∀ e ∈ gt_ed A, gt_O (gt_g (2 * M) e.1) (gt_g (2 * M) e.2) (x, 2 * M * j + M) → gt_D (2 * M) A B W (x - 1, 2 * M * j + M) = gt_D (2 * M) A B W (x, 2 * M * j + M) := by
      intro A B h w fA fB c e he o
      have dA := dl1 h.1.1.1 fA e he o
      by_cases je : gt_J A B e
      · have eW : e ∈ gt_ed W := Classical.byContradiction (fun n => c ⟨e, je, n, o⟩)
        have dW := dl1 (gt_way_smp h w) fW e eW o
        have dB := dl0 fB (fun f hf o2 => tp1 h (Or.inr hf) je (fun t => gt_pr_no2 h he (by rw [← t]; exact hf)) o2 o)
        unfold gt_D
        omega
      · have eB : gt_rv e ∈ gt_ed B := Classical.byContradiction (fun n => je (Or.inl ⟨he, n⟩))
        have dB := dl1 h.1.2.1 fB (gt_rv e) eB (gt_O_sw o)
        have dW := dl0 fW (fun f hf => tp1 h (Or.inl he) (w.2.2 f hf) (fun t => je (by rw [t]; exact w.2.2 f hf)) o)
        have r1 : gt_c (x - 1, 2 * M * j + M) (gt_g (2 * M) (gt_rv e).1) (gt_g (2 * M) (gt_rv e).2) = -gt_c (x - 1, 2 * M * j + M) (gt_g (2 * M) e.1) (gt_g (2 * M) e.2) := gt_c_sw
        have r2 : gt_c (x, 2 * M * j + M) (gt_g (2 * M) (gt_rv e).1) (gt_g (2 * M) (gt_rv e).2) = -gt_c (x, 2 * M * j + M) (gt_g (2 * M) e.1) (gt_g (2 * M) e.2) := gt_c_sw
        unfold gt_D
        omega
    by_cases cA : ∃ e ∈ gt_ed A, gt_O (gt_g (2 * M) e.1) (gt_g (2 * M) e.2) (x, 2 * M * j + M)
    · obtain ⟨e, he, o⟩ := cA
      rw [same h w fA fB c e he o]
      exact h0
    · by_cases cB : ∃ e ∈ gt_ed B, gt_O (gt_g (2 * M) e.1) (gt_g (2 * M) e.2) (x, 2 * M * j + M)
      · obtain ⟨e, he, o⟩ := cB
        have := same (gt_pr_sw h) (gt_way_sw w) fB fA (fun ⟨e, a, b⟩ => c ⟨e, gt_J_sw a, b⟩) e he o
        rw [(gt_D_sw (A := A) (B := B)).symm, this, gt_D_sw]
        exact h0
      · have a1 := dl0 fA (fun f hf o => cA ⟨f, hf, o⟩)
        have a2 := dl0 fB (fun f hf o => cB ⟨f, hf, o⟩)
        have a3 := dl0 fW (fun f hf o => by
          rcases gt_J_in (w.2.2 f hf) with k | k
          · exact cA ⟨f, k, o⟩
          · exact cB ⟨f, k, o⟩)
        unfold gt_D at *
        omega
theorem gt_far_w {M : Int} {N : Nat} (hM : 0 < M) {l : List gt_P} (f : gt_fine M N l) {x y : Int} (hx : 2 * M * N ≤ x) : gt_w (l.map (gt_g (2 * M))) (x, y) = 0 := by
  refine gt_w_far (fun q hq => ?_)
  obtain ⟨p, hp, p2⟩ := List.mem_map.mp hq
  rw [← p2]
  have := Int.mul_le_mul_of_nonneg_left (f.1 p hp).1.2 (show 0 ≤ 2 * M by omega)
  show 2 * M * p.1 ≤ x
  omega
/-- a way round that has the area of both has all that is not common -/
theorem gt_full {A B W : List gt_P} {N : Nat} (h : gt_pr A B) (w : gt_way A B W) (bA : ∀ p ∈ A, (0 ≤ p.1 ∧ p.1 ≤ N) ∧ 0 ≤ p.2 ∧ p.2 ≤ N) (bB : ∀ p ∈ B, (0 ≤ p.1 ∧ p.1 ≤ N) ∧ 0 ≤ p.2 ∧ p.2 ≤ N) (ar : gt_sm gt_ar (gt_ed W) = gt_sm gt_ar (gt_ed A) + gt_sm gt_ar (gt_ed B)) : ∀ e, gt_J A B e → e ∈ gt_ed W := by
  obtain ⟨M, hM, hm⟩ := gt_com ((gt_ed A ++ gt_ed B).map (fun e => e.2.2 - e.1.2))
  have hK : 0 < 2 * M := by omega
  have fA : gt_fine M N A := ⟨bA, fun e he n => hm _ (List.mem_map.mpr ⟨e, List.mem_append.mpr (Or.inl he), rfl⟩) n⟩
  have fB : gt_fine M N B := ⟨bB, fun e he n => hm _ (List.mem_map.mpr ⟨e, List.mem_append.mpr (Or.inr he), rfl⟩) n⟩
  have fW : gt_fine M N W := by
    refine ⟨fun p hp => ?_, fun e he n => ?_⟩
    · obtain ⟨b, hb⟩ := gt_out hp
      rcases gt_J_in (w.2.2 _ hb) with k | k
      · exact bA p (gt_ed_mem k).1
      · exact bB p (gt_ed_mem k).1
    · rcases gt_J_in (w.2.2 _ he) with k | k
      · exact fA.2 e k n
      · exact fB.2 e k n
  have pA := gt_ar_pos hM h.1.1 fA
  have pB := gt_ar_pos hM h.1.2 fB
  have sW := gt_way_smp h w
  have k0 : gt_k W = 0 := by
    rcases gt_k_01 sW w.1 with k | k
    · exact k
    · have nn : ∀ z, 0 ≤ -gt_w (W.map (gt_g (2 * M))) z := fun z => by
        have := gt_jordan (gt_g_smp hK sW) (fun e => w.1 (List.map_eq_nil_iff.mp e)) z
        rw [gt_g_k hK, k] at this
        omega
      have ge : 0 ≤ gt_lines M N (fun z => -gt_w (W.map (gt_g (2 * M))) z) := (gt_gs_pos (fun j _ => (gt_gs_pos (fun t _ => nn _)).1)).1
      rw [gt_lines_neg, gt_lines_w hM fW] at ge
      have := (gt_sp M (gt_sm gt_ar (gt_ed W))).1 hM (by omega)
      omega
  have has : ∀ {A B : List gt_P}, gt_pr A B → gt_way A B W → 0 < gt_sm gt_ar (gt_ed A) → gt_sm gt_ar (gt_ed W) = gt_sm gt_ar (gt_ed A) + gt_sm gt_ar (gt_ed B) → ∃ e ∈ gt_ed W, e ∈ gt_ed A := by
    intro A B h w pA ar
    refine Classical.byContradiction (fun n => ?_)
    have inB : ∀ e ∈ gt_ed W, e ∈ gt_ed B := fun e he => (gt_J_in (w.2.2 e he)).resolve_left (fun k => n ⟨e, he, k⟩)
    obtain ⟨x, y, c, r, e0⟩ := gt_smp_3 h.1.2.1 h.1.2.2.1
    obtain ⟨v, b, c2, r2, e2⟩ := gt_smp_3 sW w.1
    have all : ∀ e ∈ gt_ed B, e ∈ gt_ed W := by
      have m : (v, b) ∈ gt_ed W := by rw [e2]; exact List.mem_cons_self ..
      refine gt_cyc (P := fun e => e ∈ gt_ed W) (by rw [e0]; simp) (fun a v b h1 h2 ok => ?_) (inB _ m) m
      obtain ⟨o, ho⟩ := gt_out (gt_ed_mem ok).2
      have : (v, o) = (v, b) := gt_one1 h.1.2.1 (inB _ ho) h2 rfl
      rw [← this]
      exact ho
    have nd : ∀ {l : List gt_P}, l.Nodup → (gt_ed l).Nodup := fun {l} hl => by
      have : ((gt_ed l).map Prod.fst).Nodup := by rw [gt_ed_fst]; exact hl
      exact (List.pairwise_map.mp this).imp (fun {a b} hab e => hab (by rw [e]))
    have pm : List.Perm (gt_ed W) (gt_ed B) := (List.perm_ext_iff_of_nodup (nd w.2.1) (nd (gt_smp_nd h.1.2.1))).mpr (fun e => ⟨inB e, all e⟩)
    rw [gt_sm_perm pm] at ar
    omega
  have okA := gt_ok_all h w k0 (has h w pA ar)
  have okB := gt_ok_all (gt_pr_sw h) (gt_way_sw w) k0 (has (gt_pr_sw h) (gt_way_sw w) pB (by omega))
  have ok : ∀ e, gt_J A B e → gt_ok W e := fun e je => by
    rcases gt_J_in je with k | k
    · exact okA e k
    · exact okB e k
  have D0 : ∀ {x j : Int}, 2 * M * N ≤ x → gt_D (2 * M) A B W (x, 2 * M * j + M) = 0 := fun {x j} hx => by
    unfold gt_D
    rw [gt_far_w hM fA hx, gt_far_w hM fB hx, gt_far_w hM fW hx]
    rfl
  have D1 : ∀ (j : Int) (n : Nat), 0 ≤ gt_D (2 * M) A B W (2 * M * N - n, 2 * M * j + M) := fun j n => by
    induction n with
    | zero => rw [D0 (by omega)]; omega
    | succ n ih =>
      have := gt_D_st h w hM fA fB fW ok ih
      rw [show 2 * M * (N : Int) - ((n + 1 : Nat) : Int) = 2 * M * N - n - 1 by omega]
      exact this
  have D2 : ∀ (j : Nat) (x : Int), 0 ≤ gt_D (2 * M) A B W (x, 2 * M * (j : Int) + M) := fun j x => by
    by_cases c : 2 * M * N ≤ x
    · rw [D0 c]; omega
    · have := D1 j (2 * M * N - x).toNat
      rw [show 2 * M * (N : Int) - ((2 * M * N - x).toNat : Int) = x by omega] at this
      exact this
  have s0 : gt_lines M N (gt_D (2 * M) A B W) = 0 := by
    have e1 : gt_lines M N (gt_D (2 * M) A B W) = gt_lines M N (fun z => gt_w (W.map (gt_g (2 * M))) z) + -(gt_lines M N (fun z => gt_w (A.map (gt_g (2 * M))) z) + gt_lines M N (fun z => gt_w (B.map (gt_g (2 * M))) z)) := by
      rw [← gt_lines_add, ← gt_lines_neg, ← gt_lines_add]
      rfl
    rw [e1, gt_lines_w hM fA, gt_lines_w hM fB, gt_lines_w hM fW, ar]
    grind
  have z0 := gt_lines_0 hM D2 s0
  have z1 : ∀ (j : Nat) (x : Int), j < N → -1 ≤ x → gt_D (2 * M) A B W (x, 2 * M * (j : Int) + M) = 0 := fun j x hj hx => by
    by_cases c : 2 * M * N ≤ x
    · exact D0 c
    · exact z0 j x hj hx (by omega)
  have lev : ∀ e, (gt_J A B e ∧ e ∉ gt_ed W) → e.1.2 = e.2.2 := by
    have key : ∀ {A B : List gt_P}, gt_pr A B → gt_way A B W → gt_fine M N A → gt_fine M N B → (∀ (j : Nat) (x : Int), j < N → -1 ≤ x → gt_D (2 * M) A B W (x, 2 * M * (j : Int) + M) = 0) → ∀ e, gt_J A B e → e ∉ gt_ed W → e ∈ gt_ed A → e.1.2 = e.2.2 := by
      intro A B h w fA fB z1 e je nW he
      refine Classical.byContradiction (fun n => ?_)
      obtain ⟨j, X, hj, hX, o, ju⟩ := gt_line_at hM fA he n
      have nv : ∀ {p : gt_P}, ¬ ((X, 2 * M * (j : Int) + M) : gt_P) = gt_g (2 * M) p := gt_line_v hM
      have no : ∀ f, (f ∈ gt_ed A ∨ f ∈ gt_ed B) → f ≠ e → ¬ gt_O (gt_g (2 * M) f.1) (gt_g (2 * M) f.2) (X, 2 * M * (j : Int) + M) := fun f hf ne o2 => by
        rcases gt_tp h hf je ne hK o2 o with k | k
        · exact nv k
        · exact nv k
      have dl0 : ∀ {l : List gt_P}, gt_fine M N l → (∀ f ∈ gt_ed l, f ≠ e ∧ (f ∈ gt_ed A ∨ f ∈ gt_ed B)) → gt_w (l.map (gt_g (2 * M))) (X - 1, 2 * M * (j : Int) + M) = gt_w (l.map (gt_g (2 * M))) (X, 2 * M * (j : Int) + M) := fun {l} fl hn => by
        refine gt_dl0 (gt_line_dv fl (j : Int)) (fun f' hf' o2 => ?_)
        rw [gt_ed_map] at hf'
        obtain ⟨f, hf, e1⟩ := List.mem_map.mp hf'
        rw [← e1] at o2
        exact no f (hn f hf).2 (hn f hf).1 o2
      have dA := gt_dl1 (e := (gt_g (2 * M) e.1, gt_g (2 * M) e.2)) (gt_g_smp hK h.1.1.1) (gt_line_dv fA (j : Int)) (by rw [gt_ed_map]; exact List.mem_map.mpr ⟨e, he, rfl⟩) o (fun p hp => by
        obtain ⟨q, _, q2⟩ := List.mem_map.mp hp
        rw [← q2]
        exact nv)
      have dB := dl0 fB (fun f hf => ⟨fun t => gt_pr_no2 h he (by rw [← t]; exact hf), Or.inr hf⟩)
      have dW := dl0 fW (fun f hf => ⟨fun t => nW (by rw [← t]; exact hf), gt_J_in (w.2.2 f hf)⟩)
      have a1 := z1 j X hj (by omega)
      have a2 := z1 j (X - 1) hj (by omega)
      unfold gt_D at a1 a2
      dsimp only at dA
      omega
    intro e ⟨je, nW⟩
    rcases gt_J_in je with k | k
    · exact key h w fA fB z1 e je nW k
    · exact key (gt_pr_sw h) (gt_way_sw w) fB fA (fun j x hj hx => by rw [gt_D_sw]; exact z1 j x hj hx) e (gt_J_sw je) nW k
  intro e je
  refine Classical.byContradiction (fun nW => ?_)
  refine gt_lvl (V := fun e => gt_J A B e ∧ e ∉ gt_ed W) (L := gt_ed A ++ gt_ed B) (fun e he => ?_) (fun e he => gt_V_suc h w he.1 he.2) (fun e he => gt_V_pre h w he.1 he.2) (fun e f he hf q => gt_J_spk h he.1 hf.1 q) (fun e he => ?_) lev e ⟨je, nW⟩
  · rcases gt_J_in he.1 with k | k
    · exact List.mem_append.mpr (Or.inl k)
    · exact List.mem_append.mpr (Or.inr k)
  · rcases gt_J_in he.1 with k | k
    · exact gt_ne h.1.1.1 k
    · exact gt_ne h.1.2.1 k
