/-! geometry: stretches that are not common -/
/-! two FIGURES that lie apart: the stretches that are not common -/
def gt_J (A B : List gt_P) (e : gt_E) : Prop := (e ∈ gt_ed A ∧ gt_rv e ∉ gt_ed B) ∨ (e ∈ gt_ed B ∧ gt_rv e ∉ gt_ed A)
theorem gt_J_sw {A B : List gt_P} {e : gt_E} (h : gt_J A B e) : gt_J B A e := Or.symm h
theorem gt_J_in {A B : List gt_P} {e : gt_E} (h : gt_J A B e) : e ∈ gt_ed A ∨ e ∈ gt_ed B := by
  rcases h with h | h
  · exact Or.inl h.1
  · exact Or.inr h.1
theorem gt_out {l : List gt_P} {v : gt_P} (h : v ∈ l) : ∃ b, (v, b) ∈ gt_ed l := by
  rw [← gt_ed_fst (l := l)] at h
  obtain ⟨e, he, e1⟩ := List.mem_map.mp h
  exact ⟨e.2, by rw [← e1]; exact he⟩
theorem gt_ed_snd {a : gt_P} {l : List gt_P} : (gt_ed (a :: l)).map Prod.snd = l ++ [a] := gt_pe_snd
theorem gt_into {l : List gt_P} {v : gt_P} (h : v ∈ l) : ∃ a, (a, v) ∈ gt_ed l := by
  cases l with
  | nil => cases h
  | cons a l =>
    have h2 : v ∈ (gt_ed (a :: l)).map Prod.snd := by
      rw [gt_ed_snd]
      rcases List.mem_cons.mp h with e | e
      · exact List.mem_append.mpr (Or.inr (by rw [e]; exact List.mem_cons_self ..))
      · exact List.mem_append.mpr (Or.inl e)
    obtain ⟨e, he, e1⟩ := List.mem_map.mp h2
    exact ⟨e.1, by rw [← e1]; exact he⟩
theorem gt_no_rv {l : List gt_P} (h : gt_smp l) {e : gt_E} (he : e ∈ gt_ed l) : gt_rv e ∉ gt_ed l := fun k => by
  have hl : l ≠ [] := fun z => by rw [z] at he; cases he
  have n := gt_ne h he
  rcases gt_sep h hl he k with q | q | q | q
  · exact n (congrArg Prod.fst q)
  · exact q.2.1 rfl
  · exact q.2.1 rfl
  · exact q (Or.inr (Or.inl (Or.inl gt_O_r)))
theorem gt_rv_rv {e : gt_E} : gt_rv (gt_rv e) = e := rfl
theorem gt_J_no {A B : List gt_P} (h : gt_pr A B) {e : gt_E} (he : gt_J A B e) : gt_rv e ∉ gt_ed A ∧ gt_rv e ∉ gt_ed B := by
  rcases he with ⟨a, b⟩ | ⟨a, b⟩
  · exact ⟨gt_no_rv h.1.1.1 a, b⟩
  · exact ⟨b, gt_no_rv h.1.2.1 a⟩
/-- the same way from a common corner: the same stretch -/
theorem gt_pr_dir {A B : List gt_P} (h : gt_pr A B) {v x y : gt_P} (hx : (v, x) ∈ gt_ed A ∨ (x, v) ∈ gt_ed A) (hy : (v, y) ∈ gt_ed B ∨ (y, v) ∈ gt_ed B) (s : gt_sd (gt_d v x) (gt_d v y)) : x = y := by
  obtain ⟨⟨hA, hB⟩, dj, pA, pB⟩ := id h
  have nx : x ≠ v := by
    rcases hx with k | k
    · exact fun e => gt_ne hA.1 k e.symm
    · exact fun e => gt_ne hA.1 k e
  have ny : y ≠ v := by
    rcases hy with k | k
    · exact fun e => gt_ne hB.1 k e.symm
    · exact fun e => gt_ne hB.1 k e
  have mx : x ∈ A := by
    rcases hx with k | k
    · exact (gt_ed_mem k).2
    · exact (gt_ed_mem k).1
  have my : y ∈ B := by
    rcases hy with k | k
    · exact (gt_ed_mem k).2
    · exact (gt_ed_mem k).1
  rcases gt_sd_on s nx ny with k | k
  · -- y on v-x
    rcases hx with q | q
    · rcases pA _ q y my k with z | z
      · exact absurd z ny
      · exact z.symm
    · rcases pA _ q y my (gt_O_sw k) with z | z
      · exact z.symm
      · exact absurd z ny
  · rcases hy with q | q
    · rcases pB _ q x mx k with z | z
      · exact absurd z nx
      · exact z
    · rcases pB _ q x mx (gt_O_sw k) with z | z
      · exact z
      · exact absurd z nx
/-- the two corners at a common corner -/
theorem gt_cor {A B : List gt_P} (h : gt_pr A B) {a v b a' b' : gt_P} (a1 : (a, v) ∈ gt_ed A) (a2 : (v, b) ∈ gt_ed A) (b1 : (a', v) ∈ gt_ed B) (b2 : (v, b') ∈ gt_ed B) : ((gt_nz (gt_d v a) ∧ gt_nz (gt_d v b)) ∧ gt_nz (gt_d v a') ∧ gt_nz (gt_d v b')) ∧ (¬ gt_sd (gt_d v a) (gt_d v b) ∧ ¬ gt_sd (gt_d v a') (gt_d v b')) ∧ (¬ gt_sd (gt_d v a) (gt_d v a') ∧ ¬ gt_sd (gt_d v b) (gt_d v b')) ∧ ((¬ gt_sd (gt_d v a) (gt_d v b') → gt_C (gt_d v a) (gt_d v b') (gt_d v b) = 1 ∧ gt_C (gt_d v a') (gt_d v b') (gt_d v a) = 0) ∧ (¬ gt_sd (gt_d v b) (gt_d v a') → gt_C (gt_d v a') (gt_d v b) (gt_d v b') = 1 ∧ gt_C (gt_d v a') (gt_d v b') (gt_d v b) = 0)) := by
  obtain ⟨⟨hA, hB⟩, dj, pA, pB⟩ := id h
  have na : gt_nz (gt_d v a) := gt_d_nz (fun e => gt_ne hA.1 a1 e.symm)
  have nb : gt_nz (gt_d v b) := gt_d_nz (gt_ne hA.1 a2)
  have na' : gt_nz (gt_d v a') := gt_d_nz (fun e => gt_ne hB.1 b1 e.symm)
  have nb' : gt_nz (gt_d v b') := gt_d_nz (gt_ne hB.1 b2)
  have h1 : ¬ gt_sd (gt_d v a) (gt_d v b) := (gt_spk hA.1 hA.2.1 a1 a2 rfl).2.2
  have h2 : ¬ gt_sd (gt_d v a') (gt_d v b') := (gt_spk hB.1 hB.2.1 b1 b2 rfl).2.2
  have ap := gt_dj_ap hA.1 hB.1 hA.2.2 hB.2.2 dj a1 a2 b1 b2
  have ga := gt_ap2_a na nb na' nb' h1 h2 ap
  have gb := gt_ap2_b na nb na' nb' h1 h2 ap
  obtain ⟨c1, c2⟩ := gt_ap2_C na nb na' nb' h1 h2 ap
  obtain ⟨c3, c4⟩ := gt_ap2_C na' nb' na nb h2 h1 (gt_ap2_sw ap)
  refine ⟨⟨⟨na, nb⟩, na', nb'⟩, ⟨h1, h2⟩, ⟨ga, gb⟩, fun n => ⟨?_, c2 n⟩, fun n => ⟨?_, c1 n⟩⟩
  · have k := gt_C_sw h1 gb (fun z => n (gt_sd_sw z))
    have := c3 (fun z => n (gt_sd_sw z))
    omega
  · have k := gt_C_sw h2 (fun z => gb (gt_sd_sw z)) n
    have := c1 n
    omega
/-- on along the other one, where it has the corner; else on along this one -/
theorem gt_J_stp {A B : List gt_P} (h : gt_pr A B) {u v : gt_P} (he : gt_J A B (u, v)) (ha : (u, v) ∈ gt_ed A) : (∀ b', (v, b') ∈ gt_ed B → gt_J A B (v, b')) ∧ (v ∉ B → ∀ b, (v, b) ∈ gt_ed A → gt_J A B (v, b)) := by
  refine ⟨fun b' hb => Or.inr ⟨hb, fun k => ?_⟩, fun n b hb => Or.inl ⟨hb, fun k => n (gt_ed_mem k).2⟩⟩
  have e : (b', v) = (u, v) := gt_one2 h.1.1.1 k ha rfl
  have e : b' = u := congrArg Prod.fst e
  rw [e] at hb
  exact (gt_J_no h he).2 hb
/-- what is told of one of the common stretches' other ends -/
theorem gt_tp {A B : List gt_P} (h : gt_pr A B) {e g : gt_E} (he : e ∈ gt_ed A ∨ e ∈ gt_ed B) (hg : gt_J A B g) (ne : e ≠ g) {K : Int} (hK : 0 < K) {z : gt_P} (z1 : gt_O (gt_g K e.1) (gt_g K e.2) z) (z2 : gt_O (gt_g K g.1) (gt_g K g.2) z) : z = gt_g K e.1 ∨ z = gt_g K e.2 := by
  have same : ∀ {l : List gt_P}, gt_smp l → e ∈ gt_ed l → g ∈ gt_ed l → z = gt_g K e.1 ∨ z = gt_g K e.2 := by
    intro l hs ke kg
    have hl : l ≠ [] := fun z => by rw [z] at ke; cases ke
    rcases gt_sep hs hl ke kg with q | q | q | q
    · exact absurd q ne
    · refine Classical.byContradiction (fun w => ?_)
      have n2 : z ≠ gt_g K e.2 := fun t => w (Or.inr t)
      have sp := gt_spk hs hl ke kg q.1
      refine gt_adj z1 n2 (c := gt_g K g.2) ?_ (fun t => sp.1 (gt_g_inj hK t)) (by rw [q.1]; exact z2)
      rw [gt_g_d, gt_g_d, gt_g_sd hK]
      exact sp.2.2
    · refine Classical.byContradiction (fun w => ?_)
      have n1 : z ≠ gt_g K e.1 := fun t => w (Or.inl t)
      have sp := gt_spk hs hl kg ke q.1
      refine gt_adj (gt_O_sw z1) n1 (c := gt_g K g.1) ?_ (fun t => gt_ne hs ke (gt_g_inj hK t).symm) (by rw [← q.1]; exact gt_O_sw z2)
      rw [gt_g_d, gt_g_d, gt_g_sd hK, ← q.1]
      exact fun t => sp.2.2 (gt_sd_sw t)
    · exact absurd (gt_M_of hK z1 z2) q
  have other : ∀ {A B : List gt_P}, gt_pr A B → e ∈ gt_ed A → g ∈ gt_ed B → gt_rv e ≠ g → z = gt_g K e.1 ∨ z = gt_g K e.2 := by
    intro A B h ke kg nr
    obtain ⟨⟨hA, hB⟩, dj, pA, pB⟩ := id h
    have mA := gt_ed_mem ke
    have mB := gt_ed_mem kg
    refine Classical.byContradiction (fun w => ?_)
    have n1 : z ≠ gt_g K e.1 := fun t => w (Or.inl t)
    have n2 : z ≠ gt_g K e.2 := fun t => w (Or.inr t)
    have onto : ∀ y, y ∈ B → gt_O (gt_g K e.1) (gt_g K e.2) (gt_g K y) → y = e.1 ∨ y = e.2 := fun y my t => pA e ke y my ((gt_g_O hK).mp t)
    have n3 : z ≠ gt_g K g.1 := fun t => by
      rcases onto g.1 mB.1 (by rw [← t]; exact z1) with r | r
      · exact n1 (by rw [t, r])
      · exact n2 (by rw [t, r])
    have n4 : z ≠ gt_g K g.2 := fun t => by
      rcases onto g.2 mB.2 (by rw [← t]; exact z1) with r | r
      · exact n1 (by rw [t, r])
      · exact n2 (by rw [t, r])
    rcases gt_cross z1 z2 n1 n2 with k | k | k | k
    · rw [gt_g_t, gt_g_t, gt_g_t, gt_g_t, gt_g_mm hK, gt_g_mm hK] at k
      exact gt_noX h ke kg hK z1 z2 n1 n2 n3 n4 k.1
    · rcases onto g.1 mB.1 k.1 with r | r
      · exact k.2.1 (by rw [r])
      · exact k.2.2 (by rw [r])
    · rcases onto g.2 mB.2 k.1 with r | r
      · exact k.2.1 (by rw [r])
      · exact k.2.2 (by rw [r])
    · have n := gt_ne hA.1 ke
      rcases pB g kg e.1 mA.1 ((gt_g_O hK).mp k.1) with r | r
      · rcases pB g kg e.2 mA.2 ((gt_g_O hK).mp k.2) with r2 | r2
        · exact n (r.trans r2.symm)
        · exact ne (Prod.ext r r2)
      · rcases pB g kg e.2 mA.2 ((gt_g_O hK).mp k.2) with r2 | r2
        · exact nr (Prod.ext r2 r)
        · exact n (r.trans r2.symm)
  have nr : gt_rv e ≠ g := fun t => by
    have := gt_J_no h hg
    rw [← t, gt_rv_rv] at this
    rcases he with k | k
    · exact this.1 k
    · exact this.2 k
  rcases he with ke | ke
  · rcases gt_J_in hg with kg | kg
    · exact same h.1.1.1 ke kg
    · exact other h ke kg nr
  · rcases gt_J_in hg with kg | kg
    · exact other (gt_pr_sw h) ke kg nr
    · exact same h.1.2.1 ke kg
/-- a corner of the one on a stretch of either is an end of it -/
theorem gt_pr_v {A B : List gt_P} (h : gt_pr A B) {e : gt_E} (he : e ∈ gt_ed A ∨ e ∈ gt_ed B) {v : gt_P} (hv : v ∈ A ∨ v ∈ B) (ho : gt_O e.1 e.2 v) : v = e.1 ∨ v = e.2 := by
  obtain ⟨⟨hA, hB⟩, dj, pA, pB⟩ := id h
  rcases he with k | k
  · rcases hv with q | q
    · exact gt_vtx hA.1 q k ho
    · exact pA e k v q ho
  · rcases hv with q | q
    · exact pB e k v q ho
    · exact gt_vtx hB.1 q k ho
theorem gt_nd_inj {f : gt_E → gt_P} : ∀ {L : List gt_E}, (L.map f).Nodup → ∀ e ∈ L, ∀ g ∈ L, f e = f g → e = g
  | [], _, e, he, _, _, _ => by cases he
  | a :: L, h, e, he, g, hg, q => by
    rw [List.map_cons, List.nodup_cons] at h
    rcases List.mem_cons.mp he with k | k <;> rcases List.mem_cons.mp hg with l | l
    · rw [k, l]
    · exact absurd (List.mem_map.mpr ⟨g, l, by rw [← q, k]⟩) h.1
    · exact absurd (List.mem_map.mpr ⟨e, k, by rw [q, l]⟩) h.1
    · exact gt_nd_inj h.2 e k g l q
theorem gt_nd1 {l : List gt_P} (h : l.Nodup) {e f : gt_E} (he : e ∈ gt_ed l) (hf : f ∈ gt_ed l) (q : e.1 = f.1) : e = f :=
  gt_nd_inj (f := Prod.fst) (by rw [gt_ed_fst]; exact h) e he f hf q
theorem gt_nd2 {l : List gt_P} (h : l.Nodup) {e f : gt_E} (he : e ∈ gt_ed l) (hf : f ∈ gt_ed l) (q : e.2 = f.2) : e = f := by
  cases l with
  | nil => cases he
  | cons a l =>
    refine gt_nd_inj (f := Prod.snd) ?_ e he f hf q
    rw [gt_ed_snd]
    exact (List.perm_append_comm (l₁ := [a]) (l₂ := l)).nodup_iff.mp h
/-! a way along stretches that are not common -/
def gt_way (A B W : List gt_P) : Prop := W ≠ [] ∧ W.Nodup ∧ ∀ e ∈ gt_ed W, gt_J A B e
theorem gt_way_sw {A B W : List gt_P} (w : gt_way A B W) : gt_way B A W := ⟨w.1, w.2.1, fun e he => gt_J_sw (w.2.2 e he)⟩
theorem gt_way_3 {A B W : List gt_P} (h : gt_pr A B) (w : gt_way A B W) : 3 ≤ W.length := by
  obtain ⟨w1, w2, w3⟩ := w
  match W, w1, w3 with
  | [x], _, w3 =>
    rcases gt_J_in (w3 (x, x) (List.mem_cons_self ..)) with k | k
    · exact absurd rfl (gt_ne h.1.1.1 k)
    · exact absurd rfl (gt_ne h.1.2.1 k)
  | [x, y], _, w3 =>
    have a := gt_J_no h (w3 (x, y) (List.mem_cons_self ..))
    rcases gt_J_in (w3 (y, x) (List.mem_cons_of_mem _ (List.mem_cons_self ..))) with k | k
    · exact absurd k a.1
    · exact absurd k a.2
  | _ :: _ :: _ :: _, _, _ => simp
theorem gt_way_smp {A B W : List gt_P} (h : gt_pr A B) (w : gt_way A B W) : gt_smp W := by
  refine gt_smp_mk w.2.1 (gt_way_3 h w) (fun e he f hf ne => ⟨fun n1 n2 m => ?_, fun q => ?_⟩)
  · obtain ⟨K, hK, z, z1, z2⟩ := gt_M_ex m
    have a := gt_tp h (gt_J_in (w.2.2 e he)) (w.2.2 f hf) ne hK z1 z2
    have b := gt_tp h (gt_J_in (w.2.2 f hf)) (w.2.2 e he) (fun t => ne t.symm) hK z2 z1
    rcases a with a | a <;> rcases b with b | b
    · exact ne (gt_nd1 w.2.1 he hf (gt_g_inj hK (a.symm.trans b)))
    · exact n2 (gt_g_inj hK (b.symm.trans a))
    · exact n1 (gt_g_inj hK (a.symm.trans b))
    · exact ne (gt_nd2 w.2.1 he hf (gt_g_inj hK (a.symm.trans b)))
  · have je := w.2.2 e he
    have jf := w.2.2 f hf
    have other : ∀ {A B : List gt_P}, gt_pr A B → gt_J A B f → e ∈ gt_ed A → f ∈ gt_ed B → ¬ gt_sd (gt_d e.2 e.1) (gt_d e.2 f.2) := by
      intro A B h jf ke kf s
      have e1 : e.1 = f.2 := gt_pr_dir h (Or.inr ke) (Or.inl (by rw [q]; exact kf)) s
      have : gt_rv f = e := Prod.ext e1.symm q.symm
      have := (gt_J_no h jf).1
      rw [‹gt_rv f = e›] at this
      exact this ke
    rcases gt_J_in je with ke | ke
    · rcases gt_J_in jf with kf | kf
      · exact (gt_spk h.1.1.1 h.1.1.2.1 ke kf q).2.2
      · exact other h jf ke kf
    · rcases gt_J_in jf with kf | kf
      · exact other (gt_pr_sw h) (gt_J_sw jf) ke kf
      · exact (gt_spk h.1.2.1 h.1.2.2.1 ke kf q).2.2
theorem gt_gg {K : Int} {p : gt_P} : gt_g K (gt_g 2 p) = gt_g (K * 2) p := Prod.ext (by show K * (2 * p.1) = K * 2 * p.1; grind) (by show K * (2 * p.2) = K * 2 * p.2; grind)
def gt_mid (e : gt_E) : gt_P := (e.1.1 + e.2.1, e.1.2 + e.2.2)
theorem gt_mid_rv {e : gt_E} : gt_mid (gt_rv e) = gt_mid e := Prod.ext (by show e.2.1 + e.1.1 = e.1.1 + e.2.1; omega) (by show e.2.2 + e.1.2 = e.1.2 + e.2.2; omega)
/-- half a stretch has of another one its own end, at most -/
theorem gt_half {A B : List gt_P} (h : gt_pr A B) {e g : gt_E} {v u : gt_P} (he : e ∈ gt_ed A ∨ e ∈ gt_ed B) (hg : gt_J A B g) (ne : e ≠ g) (hv : e = (v, u) ∨ e = (u, v)) (m : gt_M (gt_mid e) (gt_g 2 v) (gt_g 2 g.1) (gt_g 2 g.2)) : gt_O g.1 g.2 v := by
  have nu : u ≠ v := by
    have : e.1 ≠ e.2 := by
      rcases he with k | k
      · exact gt_ne h.1.1.1 k
      · exact gt_ne h.1.2.1 k
    rcases hv with k | k
    · rw [k] at this; exact fun t => this t.symm
    · rw [k] at this; exact this
  have em : gt_mid e = (u.1 + v.1, u.2 + v.2) := by
    rcases hv with k | k
    · rw [k]; exact Prod.ext (by show v.1 + u.1 = u.1 + v.1; omega) (by show v.2 + u.2 = u.2 + v.2; omega)
    · rw [k]; rfl
  obtain ⟨q1, q2, q3⟩ := gt_g2_mid nu
  rw [← em] at q1 q2 q3
  obtain ⟨K, hK, z, z1, z2⟩ := gt_M_ex m
  rw [gt_gg, gt_gg] at z2
  rw [gt_gg] at z1
  have q1' : gt_O (gt_g (K * 2) u) (gt_g (K * 2) v) (gt_g K (gt_mid e)) := by
    have := (gt_g_O hK).mpr q1
    rw [gt_gg, gt_gg] at this
    exact this
  have zo : gt_O (gt_g (K * 2) u) (gt_g (K * 2) v) z := gt_O_cv q1' gt_O_r z1
  have ze : gt_O (gt_g (K * 2) e.1) (gt_g (K * 2) e.2) z := by
    rcases hv with k | k
    · rw [k]; exact gt_O_sw zo
    · rw [k]; exact zo
  have fin : z = gt_g (K * 2) u ∨ z = gt_g (K * 2) v := by
    have := gt_tp h he hg ne (by omega) ze z2
    rcases hv with k | k
    · rw [k] at this; exact this.symm
    · rw [k] at this; exact this
  rcases fin with t | t
  · rw [t] at z1
    have e3 := gt_O_anti (gt_O_sw q1') (gt_O_sw z1)
    rw [← gt_gg] at e3
    exact absurd (gt_g_inj hK e3) q3
  · rw [t] at z2
    exact (gt_g_O (by omega)).mp z2
theorem gt_w_const {L : List gt_P} {p q : gt_P} (h : ∀ e ∈ gt_ed L, ¬ gt_M p q e.1 e.2) : gt_w L p = gt_w L q := by
  cases L with
  | nil => rfl
  | cons v r =>
    have := gt_tel (p := p) (q := q) (gt_al_pe.mpr h : gt_al (fun x y => ¬ gt_M p q x y) v (r ++ [v]))
    have l : gt_ls v (r ++ [v]) = v := by rw [gt_ls_app]; rfl
    rw [l] at this
    show gt_ps (gt_c p) v (r ++ [v]) = gt_ps (gt_c q) v (r ++ [v])
    omega
/-- away from the way round -/
theorem gt_wm_far {A B W : List gt_P} (h : gt_pr A B) (w : gt_way A B W) {e : gt_E} {v u : gt_P} (he : e ∈ gt_ed A ∨ e ∈ gt_ed B) (nW : e ∉ gt_ed W) (hv : e = (v, u) ∨ e = (u, v)) (n : v ∉ W) : gt_w (W.map (gt_g 2)) (gt_mid e) = gt_w (W.map (gt_g 2)) (gt_g 2 v) := by
  refine gt_w_const (fun g' hg' m => ?_)
  rw [gt_ed_map] at hg'
  obtain ⟨g, hg, e1⟩ := List.mem_map.mp hg'
  rw [← e1] at m
  have jg := w.2.2 g hg
  have o := gt_half h he jg (fun t => nW (by rw [t]; exact hg)) hv m
  have vv : v ∈ A ∨ v ∈ B := by
    rcases he with k | k
    · have := gt_ed_mem k
      rcases hv with q | q
      · rw [q] at this; exact Or.inl this.1
      · rw [q] at this; exact Or.inl this.2
    · have := gt_ed_mem k
      rcases hv with q | q
      · rw [q] at this; exact Or.inr this.1
      · rw [q] at this; exact Or.inr this.2
  rcases gt_pr_v h (gt_J_in jg) vv o with k | k
  · exact n (by rw [k]; exact (gt_ed_mem hg).1)
  · exact n (by rw [k]; exact (gt_ed_mem hg).2)
/-- at a corner of the way round -/
theorem gt_wm_at {A B W : List gt_P} (h : gt_pr A B) (w : gt_way A B W) {e : gt_E} {v u i o : gt_P} (he : e ∈ gt_ed A ∨ e ∈ gt_ed B) (nW : e ∉ gt_ed W) (hv : e = (v, u) ∨ e = (u, v)) (hi : (i, v) ∈ gt_ed W) (ho : (v, o) ∈ gt_ed W) : gt_w (W.map (gt_g 2)) (gt_mid e) = gt_k W + gt_s (gt_d v i) (gt_d v o) (gt_d v u) := by
  have hs := gt_way_smp h w
  have h3 := gt_way_3 h w
  obtain ⟨s, t, r, e1, e2⟩ := gt_ed_turn (by omega) ho
  have e2 : t ++ s = v :: o :: r := e2
  have mem : ∀ f, f ∈ gt_ed (v :: o :: r) ↔ f ∈ gt_ed W := fun f => by rw [← e2, e1]; exact gt_ed_rot.mem_iff
  have hs2 : gt_smp (v :: o :: r) := by rw [← e2]; exact gt_smp_rot (by rw [← e1]; exact hs)
  have m2 : (gt_ls o r, v) ∈ gt_ed (v :: o :: r) := by
    show _ ∈ (v, o) :: gt_pe o (r ++ [v])
    rw [gt_pe_app]
    exact List.mem_cons_of_mem _ (List.mem_append.mpr (Or.inr (List.mem_cons_self ..)))
  have li : gt_ls o r = i := congrArg Prod.fst (gt_nd2 w.2.1 ((mem _).mp m2) hi rfl)
  have kk : gt_k ((v :: o :: r).map (gt_g 2)) = gt_k W := by
    rw [gt_g_k (by omega), ← e2, e1]
    exact gt_k_rot (by rw [← e1]; exact hs)
  have ww : gt_w (W.map (gt_g 2)) (gt_mid e) = gt_w ((v :: o :: r).map (gt_g 2)) (gt_mid e) := by
    rw [← e2, e1, List.map_append, List.map_append, gt_w_rots]
  obtain ⟨v', b', c', r', e3⟩ := gt_smp_3 hs2 (by simp)
  have er : r = c' :: r' := by
    injection e3 with _ e4
    injection e4
  have aw : gt_al (fun x y => ¬ gt_O x y v) o r := by
    rw [er] at hs2 ⊢
    exact gt_away hs2
  have ae : gt_al (fun x y => (x, y) ∈ gt_ed W) o r := by
    refine gt_al_pe.mpr (fun f hf => (mem f).mp ?_)
    show _ ∈ (v, o) :: gt_pe o (r ++ [v])
    rw [gt_pe_app]
    exact List.mem_cons_of_mem _ (List.mem_append.mpr (Or.inl hf))
  have al : gt_al (fun x y => ¬ gt_M (gt_mid e) (gt_g 2 v) x y) (gt_g 2 o) (r.map (gt_g 2)) := by
    refine gt_g_al (fun x y hxy m => ?_) (gt_al_and aw ae)
    exact hxy.1 (gt_half h he (w.2.2 _ hxy.2) (fun t => nW (by rw [t]; exact hxy.2)) hv m)
  have see := gt_see al
  rw [ww]
  have k' : gt_k ((v :: o :: r).map (gt_g 2)) = gt_w (gt_g 2 v :: gt_g 2 o :: r.map (gt_g 2)) (gt_g 2 v) - (if gt_lt (gt_d (gt_g 2 v) (gt_ls (gt_g 2 o) (r.map (gt_g 2)))) (gt_d (gt_g 2 v) (gt_g 2 o)) then 1 else 0) := rfl
  rw [kk] at k'
  have du : gt_d (gt_g 2 v) (gt_mid e) = gt_d v u := by
    rcases hv with q | q
    · rw [q]; exact Prod.ext (by show v.1 + u.1 - 2 * v.1 = u.1 - v.1; omega) (by show v.2 + u.2 - 2 * v.2 = u.2 - v.2; omega)
    · rw [q]; exact Prod.ext (by show u.1 + v.1 - 2 * v.1 = u.1 - v.1; omega) (by show u.2 + v.2 - 2 * v.2 = u.2 - v.2; omega)
  rw [gt_g_ls, li, gt_g_d, gt_g_d] at k' see
  rw [du, gt_f_g (by omega), gt_f_g (by omega)] at see
  have lt2 : (if gt_lt (gt_g 2 (gt_d v i)) (gt_g 2 (gt_d v o)) then (1 : Int) else 0) = if gt_lt (gt_d v i) (gt_d v o) then 1 else 0 := by
    by_cases c : gt_lt (gt_d v i) (gt_d v o)
    · rw [if_pos c, if_pos ((gt_g_l (by omega)).mpr c)]
    · rw [if_neg c, if_neg (fun z => c ((gt_g_l (by omega)).mp z))]
  rw [lt2] at k'
  show gt_w (gt_g 2 v :: gt_g 2 o :: r.map (gt_g 2)) (gt_mid e) = _
  unfold gt_s
  omega
/-- a stretch on the way round, or within it -/
def gt_ok (W : List gt_P) (e : gt_E) : Prop := e ∈ gt_ed W ∨ gt_w (W.map (gt_g 2)) (gt_mid e) = 1
theorem gt_ok_st {A B W : List gt_P} (h : gt_pr A B) (w : gt_way A B W) (k0 : gt_k W = 0) {a v b : gt_P} (h1 : (a, v) ∈ gt_ed A) (h2 : (v, b) ∈ gt_ed A) (ok : gt_ok W (a, v)) : gt_ok W (v, b) := by
  by_cases hb : (v, b) ∈ gt_ed W
  · exact Or.inl hb
  by_cases hv : v ∈ W
  · obtain ⟨o, ho⟩ := gt_out hv
    obtain ⟨i, hi⟩ := gt_into hv
    have jo := w.2.2 _ ho
    have ji := w.2.2 _ hi
    rcases gt_J_in jo with ko | ko
    · have e : o = b := congrArg Prod.snd (gt_one1 h.1.1.1 ko h2 rfl)
      exact absurd (by rw [← e]; exact ho) hb
    obtain ⟨a', ha'⟩ := gt_into (gt_ed_mem ko).1
    obtain ⟨⟨⟨na, nb⟩, na', no⟩, ⟨s1, s2⟩, ⟨s3, s4⟩, c1, c2⟩ := gt_cor h h1 h2 ha' ko
    have ao : ¬ gt_sd (gt_d v a) (gt_d v o) := fun z => by
      have e := gt_pr_dir h (Or.inr h1) (Or.inl ko) z
      have := (gt_J_no h jo).1
      rw [← e] at this
      exact this h1
    obtain ⟨c3, c4⟩ := c1 ao
    rcases gt_J_in ji with ki | ki
    · have e : i = a := congrArg Prod.fst (gt_one2 h.1.1.1 ki h1 rfl)
      subst e
      refine Or.inr ?_
      rw [gt_wm_at h w (Or.inl h2) hb (Or.inl rfl) hi ho, k0, gt_s_C nb (fun z => s1 (gt_sd_sw z)) s4, c3]
      rfl
    · have e : i = a' := congrArg Prod.fst (gt_one2 h.1.2.1 ki ha' rfl)
      subst e
      have nW : (a, v) ∉ gt_ed W := fun z => by
        have e : a = i := congrArg Prod.fst (gt_nd2 w.2.1 z hi rfl)
        subst e
        exact s3 gt_sd_refl
      have k := ok.resolve_left nW
      rw [gt_wm_at h w (Or.inl h1) nW (Or.inr rfl) hi ho, k0, gt_s_C na s3 ao, c4] at k
      exact absurd k (by decide)
  · have nW : (a, v) ∉ gt_ed W := fun z => hv (gt_ed_mem z).2
    have k := ok.resolve_left nW
    rw [gt_wm_far h w (Or.inl h1) nW (Or.inr rfl) hv] at k
    refine Or.inr ?_
    rw [gt_wm_far h w (Or.inl h2) hb (Or.inl rfl) hv]
    exact k
theorem gt_pe_ind {P : gt_E → Prop} {E : List gt_E} (st : ∀ a v b, (a, v) ∈ E → (v, b) ∈ E → P (a, v) → P (v, b)) : ∀ {l : List gt_P} {a x : gt_P}, (x, a) ∈ E → P (x, a) → (∀ e ∈ gt_pe a l, e ∈ E) → ∀ e ∈ gt_pe a l, P e
  | [], _, _, _, _, _, e, he => by cases he
  | b :: l, a, x, h1, h2, h3, e, he => by
    have m : (a, b) ∈ E := h3 _ (List.mem_cons_self ..)
    have p := st x a b h1 m h2
    rcases List.mem_cons.mp he with k | k
    · rw [k]; exact p
    · exact gt_pe_ind st m p (fun f hf => h3 f (List.mem_cons_of_mem _ hf)) e k
/-- what goes on from stretch to stretch holds of all -/
theorem gt_cyc {P : gt_E → Prop} {l : List gt_P} (hl : 2 ≤ l.length) (st : ∀ a v b, (a, v) ∈ gt_ed l → (v, b) ∈ gt_ed l → P (a, v) → P (v, b)) {e0 : gt_E} (h0 : e0 ∈ gt_ed l) (p0 : P e0) : ∀ e ∈ gt_ed l, P e := by
  obtain ⟨s, t, r, e1, e2⟩ := gt_ed_turn hl h0
  have mem : ∀ f, f ∈ gt_ed (e0.1 :: e0.2 :: r) ↔ f ∈ gt_ed l := fun f => by rw [← e2, e1]; exact gt_ed_rot.mem_iff
  intro e he
  have he' : e ∈ (e0.1, e0.2) :: gt_pe e0.2 (r ++ [e0.1]) := (mem e).mpr he
  rcases List.mem_cons.mp he' with k | k
  · rw [k]; exact p0
  · exact gt_pe_ind st h0 p0 (fun f hf => (mem f).mp (List.mem_cons_of_mem _ hf)) e k
theorem gt_ok_all {A B W : List gt_P} (h : gt_pr A B) (w : gt_way A B W) (k0 : gt_k W = 0) (hA : ∃ e ∈ gt_ed W, e ∈ gt_ed A) : ∀ e ∈ gt_ed A, gt_ok W e := by
  obtain ⟨e, he, ke⟩ := hA
  obtain ⟨x, y, c, r, e0⟩ := gt_smp_3 h.1.1.1 h.1.1.2.1
  exact gt_cyc (P := gt_ok W) (by rw [e0]; simp) (fun a v b h1 h2 ok => gt_ok_st h w k0 h1 h2 ok) ke (Or.inl he)
