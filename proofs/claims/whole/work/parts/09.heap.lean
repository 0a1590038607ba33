/-! rows of the engine: fields, arrays -/
theorem e_mem {i : Nat} {w : Cond} (h : lw_tbl[i]? = some w) (hg : goodWord w = true) : w ∈ e_gd := List.mem_filter.mpr ⟨List.mem_of_getElem? h, hg⟩
theorem e_mems {ws : List Cond} (ps : List Nat) (hp : ws = ps.filterMap (fun i => lw_tbl[i]?)) (h : ws.all goodWord = true) : ∀ w ∈ ws, w ∈ e_gd := by
  intro w hw
  have h1 := List.all_eq_true.mp h w hw
  rw [hp] at hw
  obtain ⟨i, -, hi⟩ := List.mem_filterMap.mp hw
  exact e_mem hi h1
/-- the tag of a type -/
def e_tyt : FieldType → Option Nat
  | .int => some 0
  | .boolean => some 1
  | .byte => some 2
  | .long => some 3
  | .object _ => some 4
  | .array _ => some 4
  | _ => none
/-- what the tables say of a class: its fields' places, their types -/
def e_Lay (q : vw_C) (kd : Nat) : Prop := (∀ w ∈ u_ws q.1 q.2.1 q.2.2, w ∈ e_gd) ∧ (∃ ty : Nat → FieldType, (∀ k, k < q.2.2 → parseFieldDescriptor (q.2.1 k).2.2.1 = some (ty k)) ∧ (∀ k, k < q.2.2 → e_tyt (ty k) = some (e_tg kd k))) ∧ (∀ a, a < q.2.2 → ∀ b, b < q.2.2 → a ≠ b → (q.2.1 a).2.1 ≠ (q.2.1 b).2.1)
/-- a field, by its place in a class's file: field k of the objects of kind kd -/
def e_FL (own : String) (idx kd k : Nat) : Prop := ∃ q : vw_C, e_cl[kd]? = some q ∧ k < q.2.2 ∧ Cond.fieldLink own idx (q.2.1 k).1 (q.2.1 k).2.1 (q.2.1 k).2.2.1 ∈ e_gd ∧ e_Lay q kd
def e_up (m : e_M) (a k : Nat) (v : Int) : e_M := fun a' k' => if a' = a ∧ k' = k then v else m a' k'
theorem e_up_row {m : e_M} {a k b : Nat} {v : Int} (h : b ≠ a) : e_up m a k v b = m b := by funext j; unfold e_up; rw [if_neg (fun z => h z.1)]
theorem e_up_at {m : e_M} {a k j : Nat} {v : Int} : e_up m a k v a j = if j = k then v else m a j := by unfold e_up; simp
theorem e_cl_lt {kd : Nat} {q : vw_C} (h : e_cl[kd]? = some q) : kd < 20 := by have := (List.getElem?_eq_some_iff.mp h).1; have : e_cl.length = 13 := rfl; omega
theorem e_cl_ne {kd : Nat} {q : vw_C} (h : e_cl[kd]? = some q) : ¬ kd = 15 := by have := (List.getElem?_eq_some_iff.mp h).1; have : e_cl.length = 13 := rfl; omega
theorem e_num_of {kd : Nat} {q : vw_C} (h : e_cl[kd]? = some q) : e_num kd = q.2.2 := by unfold e_num; rw [h]; rfl
theorem e_ce.obj {D : va_G} {s : State} {ad : Nat → Nat} {kd n : Nat} {f : Nat → Int} {H : Heap} {q : Nat} (h : e_ce D s ad kd n f H q) (hk : kd < 20) (hk9 : ¬ kd = 15) : n = e_num kd ∧ ∃ cell : Cell, H[q]? = some cell ∧ cell.cls = D.1 kd ∧ cell.vm = .none ∧ ∀ k, k < n → cell.slots[D.2 kd k]? = some (e_sv ad (e_tg kd k) (f k)) := by
  obtain ⟨cell, h1, h2 | h2 | h2⟩ := h
  · exact ⟨h2.2.1, cell, h1, h2.2.2⟩
  · have := h2.1; omega
  · exact absurd h2.1 hk9
theorem e_ce.row {D : va_G} {s : State} {ad : Nat → Nat} {kd n : Nat} {f : Nat → Int} {H : Heap} {q : Nat} (h : e_ce D s ad kd n f H q) (hk : 20 ≤ kd) : ∃ cell : Cell, H[q]? = some cell ∧ e_arr s kd cell ∧ cell.vm ≠ .unknown ∧ (n ≤ cell.slots.size ∧ cell.slots.size.toInt32 = Int32.ofNat n) ∧ ∀ k, k < n → cell.slots[k]? = some (e_sv ad (e_tg kd 0) (f k)) := by
  obtain ⟨cell, h1, h2 | h2 | h2⟩ := h
  · have := h2.1; omega
  · exact ⟨cell, h1, h2.2⟩
  · have := h2.1; omega
/-- a value out of a slot with tag t -/
def e_val (t : Nat) (x : Int) : e_V := if t = 3 then .inr (.inl x) else if t = 4 then .inr (.inr (.inl x)) else .inl x
theorem e_vv_val {ad : Nat → Nat} {t : Nat} {x : Int} : e_vv ad (e_val t x) = e_sv ad t x := by
  unfold e_val e_sv
  split
  · rfl
  · split <;> rfl
theorem e_val_nu {t : Nat} {x : Int} : e_val t x ≠ .inr (.inr (.inr ())) := by
  unfold e_val
  split
  · exact e_nl
  · split
    · exact e_na
    · exact e_ni
theorem e_so_i32 {top t : Nat} {x : Int} (h : e_so top t x) (h3 : ¬ t = 3) (h4 : ¬ t = 4) : e_i32 x := by
  unfold e_so at h
  rw [if_neg h3, if_neg h4] at h
  split at h
  · rcases h with h | h <;> exact ⟨by omega, by omega⟩
  · split at h
    · exact ⟨by omega, by omega⟩
    · exact h
theorem e_ok_val {top t : Nat} {x : Int} (h : e_so top t x) : e_ok top (e_val t x) := by
  unfold e_val
  split
  · rename_i h3; subst h3; exact h
  · rename_i h3
    split
    · rename_i h4; subst h4; exact h
    · rename_i h4; exact e_so_i32 h h3 h4
/-- what a slot keeps: the value as it is -/
theorem e_nar {ad : Nat → Nat} {top t : Nat} {x : Int} {ty : FieldType} (h : e_so top t x) (ht : e_tyt ty = some t) : narrow ty (e_sv ad t x) = e_sv ad t x ∧ fits ty (e_sv ad t x) = true := by
  cases ty <;> simp only [e_tyt, Option.some.injEq, reduceCtorEq] at ht <;> subst ht
  · -- byte
    have h : -128 ≤ x ∧ x < 128 := h
    have e1 : e_sv ad 2 x = .int (Int32.ofInt x) := rfl
    rw [e1]
    have hx : e_i32 x := ⟨by omega, by omega⟩
    refine ⟨?_, ?_⟩
    · show Value.int _ = _
      rw [e_i2b, e_w8_id h]
    · have a1 : (-128 : Int32) ≤ Int32.ofInt x := (e_le32 (x := -128) ⟨by decide, by decide⟩ hx).mpr h.1
      have a2 : Int32.ofInt x ≤ (127 : Int32) := (e_le32 (y := 127) hx ⟨by decide, by decide⟩).mpr (by omega)
      simp [fits, a1, a2]
  · exact ⟨rfl, rfl⟩
  · exact ⟨rfl, rfl⟩
  · have h : x = 0 ∨ x = 1 := h
    rcases h with rfl | rfl <;> exact ⟨rfl, rfl⟩
  · have e1 : e_sv ad 4 x = e_rv ad x := rfl
    rw [e1]
    unfold e_rv
    split <;> exact ⟨rfl, rfl⟩
  · have e1 : e_sv ad 4 x = e_rv ad x := rfl
    rw [e1]
    unfold e_rv
    split <;> exact ⟨rfl, rfl⟩
section HEAP
variable {sh : Nat → Nat × Nat} {Y : e_Y} {rm : Nat × Nat × Nat} {pc : Nat} {ls st : List e_V} {g : e_G} {cs : Nat × Nat} {Q : Option e_V → e_G → Prop} {x y a i : Int}
theorem e_al_of {t : Nat} (h : e_rok t a) (h0 : 0 ≤ a) : e_al t a.toNat := by
  rcases h with h | h
  · omega
  · exact h.2
theorem e_getf {idx kd k : Nat} (hdg : decode Y.2.1 pc = .ok (.getfield idx, 3)) (hf : e_FL Y.1.cls idx kd k) (h0 : 0 ≤ a) (hs : (sh a.toNat).1 = kd) (kk : e_T sh Y rm (pc + 3) ls (e_val (e_tg kd k) (g.1 a.toNat k) :: st) g cs Q) : e_T sh Y rm pc ls (.inr (.inr (.inl a)) :: st) g cs Q := by
  intro p l e s m args below meth c D ad0 t0 ad H locs lsJ hC hE hI hL hls hst
  obtain ⟨q, hq, hk, hlink, hlay⟩ := hf
  obtain ⟨ha, hs2⟩ := e_ok_pop hst
  have hal := e_al_of ha h0
  have hkd := e_cl_lt hq
  obtain ⟨hR, -⟩ := id hI
  obtain ⟨hn, cell, q1, q2, q3, q4⟩ := (hR.1 _ hal).obj (by rw [hs]; exact hkd) (by rw [hs]; exact e_cl_ne hq)
  rw [hs] at hn q2 q4
  rw [hn, e_num_of hq] at q4
  obtain ⟨hS, hfc, kC, hkC, hkind⟩ := hE.1 kd _ hq
  obtain ⟨cf, kf, fi, f, hi, hsl⟩ := hS k hk
  have hso := hR.2.2 a.toNat k hal (by rw [hn, e_num_of hq]; exact hk)
  rw [hs, if_pos hkd] at hso
  rw [List.map_cons, show e_vv ad (.inr (.inr (.inl a))) = .ref (ad a.toNat) from e_rv_pos h0]
  have key := kk p l e s m args below meth c D ad0 t0 ad H locs lsJ hC hE hI hL hls (e_ok_cons (e_ok_val hso) e_val_nu hs2)
  rw [List.map_cons, e_vv_val] at key
  refine W.getf hC.1 hC.2.1 hC.2.2.2.2.1 (hC.2.2.2.2.2.1 _ hlink) hi (u_facts hfc hkC (u_lays hC.2.2.2.2.2.1 hlay.1 hk) hi).1 q1 (by rw [q3]; exact fun h => by cases h) (v := e_sv ad (e_tg kd k) (g.1 a.toNat k)) ?_ rfl rfl hdg key
  rw [hsl]
  exact q4 k hk
/-- the memory behind a store -/
theorem e_Rep.put {D : va_G} {s : State} {ad : Nat → Nat} {H H1 : Heap} {b k : Nat} {v : Int} (hR : e_Rep sh D s ad g H) (hal : e_al g.2 b) (hbt : b < g.2) (hv : k < (sh b).2 → e_so g.2 (e_tg (sh b).1 (if (sh b).1 < 20 then k else 0)) v)
    (h1 : e_ce D s ad (sh b).1 (sh b).2 (e_up g.1 b k v b) H1 (ad b)) (h2 : ∀ q, q ≠ ad b → H1[q]? = H[q]?) : e_Rep sh D s ad (e_up g.1 b k v, g.2) H1 := by
  refine ⟨fun c hc => ?_, hR.2.1, fun c j hc hj => ?_⟩
  · by_cases hcb : c = b
    · subst hcb; exact h1
    · dsimp only
      rw [e_up_row hcb]
      exact (hR.1 c hc).kept (h2 _ (fun z => hcb (hR.2.1 c b hc hbt z)))
  · dsimp only
    by_cases hcb : c = b
    · subst hcb
      rw [e_up_at]
      by_cases hjk : j = k
      · rw [if_pos hjk, hjk]; exact hv (hjk ▸ hj)
      · rw [if_neg hjk]; exact hR.2.2 c j hc hj
    · rw [e_up_row hcb]; exact hR.2.2 c j hc hj
theorem e_lt_of_al {t b : Nat} (h : e_al t b) (hb : b < 1000000) : b < t := by unfold e_al at h; omega
theorem e_I.put {D : va_G} {s : State} {ad0 : Nat → Nat} {t0 : Nat} {ad : Nat → Nat} {H H1 : Heap} {locs : List Loc} {b k j : Nat} {v : Int} (hI : e_I sh D s ad0 t0 ad g H locs) (hal : e_al g.2 b) (hb : b < 1000000)
    (hv : k < (sh b).2 → e_so g.2 (e_tg (sh b).1 (if (sh b).1 < 20 then k else 0)) v) (h1 : e_ce D s ad (sh b).1 (sh b).2 (e_up g.1 b k v b) H1 (ad b)) (hz : H1.size = H.size) (h2 : ∀ q, q ≠ ad b → H1[q]? = H[q]?) :
    e_I sh D s ad0 t0 ad (e_up g.1 b k v, g.2) H1 (locs ++ [⟨ad b, j⟩]) := by
  obtain ⟨hR, i2, i3, i4, i5, i6⟩ := hI
  have hbt := e_lt_of_al hal hb
  have hA : e_A ad0 t0 s.heap.size (ad b) := by
    by_cases hbt0 : b < t0
    · exact Or.inl ⟨b, hbt0, i2 b (Or.inl hbt0)⟩
    · exact Or.inr (i4 b (by omega) hbt)
  exact ⟨hR.put hal hbt hv h1 h2, i2, i3, i4, i5.put hz h2 hA, i6.kept fun q _ hq => h2 q (fun z => hq ⟨b, hbt, z⟩)⟩
/-- a store into a field that isn't final -/
theorem e_putf {idx kd k : Nat} {v : e_V} {n : Int} (hdg : decode Y.2.1 pc = .ok (.putfield idx, 3)) (hf : e_FL Y.1.cls idx kd k) (hfin : ∀ q, e_cl[kd]? = some q → (q.2.1 k).2.2.2 = false) (hv : v = e_val (e_tg kd k) n) (hz : e_tg kd k = 1 → n = 0 ∨ n = 1) (hz2 : ¬ e_tg kd k = 2) (h0 : 0 ≤ a) (h1 : a.toNat < 1000000) (hs : (sh a.toNat).1 = kd)
    (kk : e_T sh Y rm (pc + 3) ls st (e_up g.1 a.toNat k n, g.2) cs Q) : e_T sh Y rm pc ls (v :: .inr (.inr (.inl a)) :: st) g cs Q := by
  intro p l e s m args below meth c D ad0 t0 ad H locs lsJ hC hE hI hL hls hst
  obtain ⟨q, hq, hk, hlink, hlay⟩ := hf
  obtain ⟨hvo, hst2⟩ := e_ok_pop hst
  obtain ⟨ha, hs2⟩ := e_ok_pop hst2
  have hal := e_al_of ha h0
  have hkd := e_cl_lt hq
  have hR := hI.1
  obtain ⟨hn, cell, q1, q2, q3, q4⟩ := (hR.1 _ hal).obj (by rw [hs]; exact hkd) (by rw [hs]; exact e_cl_ne hq)
  rw [hs] at hn q2 q4
  have hn' := hn
  rw [hn, e_num_of hq] at q4
  obtain ⟨hS, hfc, kC, hkC, hkind⟩ := hE.1 kd _ hq
  obtain ⟨cf, kf, fi, f, hi, hsl⟩ := hS k hk
  have hso : e_so g.2 (e_tg kd k) n := by
    subst hv
    unfold e_val at hvo
    unfold e_so
    split
    · rename_i h3; rw [if_pos h3] at hvo; exact hvo
    · rename_i h3
      rw [if_neg h3] at hvo
      split
      · rename_i h4; rw [if_pos h4] at hvo; exact hvo
      · rename_i h4
        rw [if_neg h4] at hvo
        split
        · rename_i h5; exact hz h5
        · first
            | exact hvo
            | (rw [if_neg hz2]; exact hvo)
  obtain ⟨ty, hty, htt⟩ := hlay.2.1
  have hnf := e_nar (ad := ad) (ty := ty k) hso (htt k hk)
  have hlayk := hC.2.2.2.2.2.1 _ (hlay.1 _ (u_in_lay hk))
  unfold u_lay at hlayk
  rw [if_neg (by rw [hfin q hq]; decide)] at hlayk
  have hst1 := (u_facts hfc hkC (u_lays hC.2.2.2.2.2.1 hlay.1 hk) hi).1
  have h6 := u_store hfc hkC hkind hlayk hi (hty k hk) hnf.1 hnf.2
  have hap : ∀ a b, a < q.2.2 → b < q.2.2 → a ≠ b → D.2 kd a ≠ D.2 kd b := by
    intro x y hx hy hne
    obtain ⟨_, _, _, fa, hia, ea⟩ := hS x hx
    obtain ⟨_, _, _, fb, hib, eb⟩ := hS y hy
    rw [← ea, ← eb]
    refine u_apart (u_lays hC.2.2.2.2.2.1 hlay.1 hx) (u_lays hC.2.2.2.2.2.1 hlay.1 hy) hia hib ?_
    rw [(State.fieldFound?_type hia (hty x hx)).1, (State.fieldFound?_type hib (hty y hy)).1]
    exact hlay.2.2 x hx y hy hne
  have ev : e_vv ad v = e_sv ad (e_tg kd k) n := by rw [hv, e_vv_val]
  rw [List.map_cons, List.map_cons, show e_vv ad (.inr (.inr (.inl a))) = .ref (ad a.toNat) from e_rv_pos h0, ev]
  refine W.putK hC.1 hC.2.1 (f := f) ⟨hC.2.2.2.2.1, hC.2.2.2.2.2.1 _ hlink, ⟨_, _, _, hi⟩, hst1⟩ (by rw [q2]; exact h6) q1 q3 (by rw [hsl]; exact k2_hasslot (q4 k hk)) rfl rfl hdg fun H1 e1 e2 e3 => ?_
  rw [hsl] at e1 ⊢
  refine kk p l e s m args below meth c D ad0 t0 ad H1 _ lsJ hC hE (hI.put hal h1 (fun _ => by rw [hs, if_pos hkd]; exact hso) ?_ e2 e3) hL hls hs2
  refine ⟨_, e1, Or.inl ⟨by rw [hs]; exact hkd, by rw [hs]; exact hn, by rw [hs]; exact q2, q3, ?_⟩⟩
  rw [hs, hn, e_num_of hq]
  intro j hj
  rw [t_set (V := fun j => e_sv ad (e_tg kd j) (g.1 a.toNat j)) q4 hap hk _ j hj, e_up_at]
  unfold updV
  by_cases hjk : j = k
  · rw [if_pos hjk, if_pos hjk, hjk]
  · rw [if_neg hjk, if_neg hjk]
/-- a load out of an array -/
theorem e_ald_aux {D : va_G} {s : State} {ad : Nat → Nat} {H : Heap} {kd : Nat} (hR : e_Rep sh D s ad g H) (hal : e_al g.2 a.toNat) (hs : (sh a.toNat).1 = kd) (hk : 20 ≤ kd) (hir : e_i32 i) (hi : 0 ≤ i ∧ i < ((sh a.toNat).2 : Int)) :
    ∃ cell : Cell, H[ad a.toNat]? = some cell ∧ s.isArrayOf cell (e_aty kd) ∧ cell.vm ≠ .unknown ∧ ¬ (Int32.ofInt i < 0 ∨ cell.slots.size ≤ (Int32.ofInt i).toNatClampNeg) ∧ cell.slots[(Int32.ofInt i).toNatClampNeg]? = some (e_sv ad (e_tg kd 0) (g.1 a.toNat i.toNat)) ∧ e_so g.2 (e_tg kd 0) (g.1 a.toNat i.toNat) := by
  obtain ⟨cell, q1, q2, q3, q4, q5⟩ := (hR.1 _ hal).row (by rw [hs]; exact hk)
  rw [hs] at q2 q5
  have hso := hR.2.2 a.toNat i.toNat hal (by omega)
  rw [hs, if_neg (by omega)] at hso
  refine ⟨cell, q1, q2.1, q3, ?_, ?_, hso⟩
  · rw [e_neg hir, e_ix hir hi.1]
    have := q4.1
    omega
  · rw [e_ix hir hi.1]
    exact q5 _ (by omega)
theorem e_iald (hdg : decode Y.2.1 pc = .ok (.iaload, 1)) (h0 : 0 ≤ a) (hs : (sh a.toNat).1 = 20) (hi : 0 ≤ i ∧ i < ((sh a.toNat).2 : Int)) (kk : e_T sh Y rm (pc + 1) ls (.inl (g.1 a.toNat i.toNat) :: st) g cs Q) : e_T sh Y rm pc ls (.inl i :: .inr (.inr (.inl a)) :: st) g cs Q := by
  intro p l e s m args below meth c D ad0 t0 ad H locs lsJ hC hE hI hL hls hst
  obtain ⟨hir, hst2⟩ := e_ok_pop hst
  obtain ⟨ha, hs2⟩ := e_ok_pop hst2
  obtain ⟨cell, q1, q2, q3, q4, q5, q6⟩ := e_ald_aux hI.1 (e_al_of ha h0) hs (by decide) hir hi
  rw [List.map_cons, List.map_cons, show e_vv ad (.inr (.inr (.inl a))) = .ref (ad a.toNat) from e_rv_pos h0]
  exact W.iald hC.1 hC.2.1 q1 q2 q3 q4 q5 rfl rfl hdg (kk p l e s m args below meth c D ad0 t0 ad H locs lsJ hC hE hI hL hls (e_ok_cons (v := .inl _) (e_ok_val q6) e_ni hs2))
theorem e_lald (hdg : decode Y.2.1 pc = .ok (.laload, 1)) (h0 : 0 ≤ a) (hs : (sh a.toNat).1 = 23) (hi : 0 ≤ i ∧ i < ((sh a.toNat).2 : Int)) (kk : e_T sh Y rm (pc + 1) ls (.inr (.inl (g.1 a.toNat i.toNat)) :: st) g cs Q) : e_T sh Y rm pc ls (.inl i :: .inr (.inr (.inl a)) :: st) g cs Q := by
  intro p l e s m args below meth c D ad0 t0 ad H locs lsJ hC hE hI hL hls hst
  obtain ⟨hir, hst2⟩ := e_ok_pop hst
  obtain ⟨ha, hs2⟩ := e_ok_pop hst2
  obtain ⟨cell, q1, q2, q3, q4, q5, q6⟩ := e_ald_aux hI.1 (e_al_of ha h0) hs (by decide) hir hi
  rw [List.map_cons, List.map_cons, show e_vv ad (.inr (.inr (.inl a))) = .ref (ad a.toNat) from e_rv_pos h0]
  exact W.lald hC.1 hC.2.1 q1 q2 q3 q4 q5 rfl rfl hdg (kk p l e s m args below meth c D ad0 t0 ad H locs lsJ hC hE hI hL hls (e_ok_cons (v := .inr (.inl _)) (e_ok_val q6) e_nl hs2))
theorem e_bald (hdg : decode Y.2.1 pc = .ok (.baload, 1)) (h0 : 0 ≤ a) (hs : (sh a.toNat).1 = 22) (hi : 0 ≤ i ∧ i < ((sh a.toNat).2 : Int)) (kk : e_T sh Y rm (pc + 1) ls (.inl (g.1 a.toNat i.toNat) :: st) g cs Q) : e_T sh Y rm pc ls (.inl i :: .inr (.inr (.inl a)) :: st) g cs Q := by
  intro p l e s m args below meth c D ad0 t0 ad H locs lsJ hC hE hI hL hls hst
  obtain ⟨hir, hst2⟩ := e_ok_pop hst
  obtain ⟨ha, hs2⟩ := e_ok_pop hst2
  obtain ⟨cell, q1, q2, q3, q4, q5, q6⟩ := e_ald_aux hI.1 (e_al_of ha h0) hs (by decide) hir hi
  rw [List.map_cons, List.map_cons, show e_vv ad (.inr (.inr (.inl a))) = .ref (ad a.toNat) from e_rv_pos h0]
  exact W.bald hC.1 hC.2.1 q1 q2 q3 q4 q5 rfl rfl hdg (kk p l e s m args below meth c D ad0 t0 ad H locs lsJ hC hE hI hL hls (e_ok_cons (v := .inl _) (e_ok_val q6) e_ni hs2))
theorem e_zald (hdg : decode Y.2.1 pc = .ok (.baload, 1)) (h0 : 0 ≤ a) (hs : (sh a.toNat).1 = 21) (hi : 0 ≤ i ∧ i < ((sh a.toNat).2 : Int)) (kk : e_T sh Y rm (pc + 1) ls (.inl (g.1 a.toNat i.toNat) :: st) g cs Q) : e_T sh Y rm pc ls (.inl i :: .inr (.inr (.inl a)) :: st) g cs Q := by
  intro p l e s m args below meth c D ad0 t0 ad H locs lsJ hC hE hI hL hls hst
  obtain ⟨hir, hst2⟩ := e_ok_pop hst
  obtain ⟨ha, hs2⟩ := e_ok_pop hst2
  obtain ⟨cell, q1, q2, q3, q4, q5, q6⟩ := e_ald_aux hI.1 (e_al_of ha h0) hs (by decide) hir hi
  rw [List.map_cons, List.map_cons, show e_vv ad (.inr (.inr (.inl a))) = .ref (ad a.toNat) from e_rv_pos h0]
  exact W.zald hC.1 hC.2.1 q1 q2 q3 q4 q5 rfl rfl hdg (kk p l e s m args below meth c D ad0 t0 ad H locs lsJ hC hE hI hL hls (e_ok_cons (v := .inl _) (e_ok_val q6) e_ni hs2))
theorem e_aald {kd : Nat} (hdg : decode Y.2.1 pc = .ok (.aaload, 1)) (h0 : 0 ≤ a) (hs : (sh a.toNat).1 = kd) (hk : 30 ≤ kd) (hi : 0 ≤ i ∧ i < ((sh a.toNat).2 : Int)) (kk : e_T sh Y rm (pc + 1) ls (.inr (.inr (.inl (g.1 a.toNat i.toNat))) :: st) g cs Q) : e_T sh Y rm pc ls (.inl i :: .inr (.inr (.inl a)) :: st) g cs Q := by
  intro p l e s m args below meth c D ad0 t0 ad H locs lsJ hC hE hI hL hls hst
  obtain ⟨hir, hst2⟩ := e_ok_pop hst
  obtain ⟨ha, hs2⟩ := e_ok_pop hst2
  obtain ⟨cell, q1, q2, q3, q4, q5, q6⟩ := e_ald_aux hI.1 (e_al_of ha h0) hs (by omega) hir hi
  have ht : e_tg kd 0 = 4 := by unfold e_tg; rw [if_neg (by omega), if_neg (by omega), if_neg (by omega), if_neg (by omega), if_neg (by omega)]
  rw [ht] at q5 q6
  rw [List.map_cons, List.map_cons, show e_vv ad (.inr (.inr (.inl a))) = .ref (ad a.toNat) from e_rv_pos h0]
  exact W.aald hC.1 hC.2.1 q1 q2 (by unfold e_aty; rw [if_neg (by omega), if_neg (by omega), if_neg (by omega), if_neg (by omega)]; rfl) q3 q4 q5 rfl rfl hdg (kk p l e s m args below meth c D ad0 t0 ad H locs lsJ hC hE hI hL hls (e_ok_cons (v := .inr (.inr (.inl _))) (e_ok_val q6) e_na hs2))
theorem e_alen {kd : Nat} (hdg : decode Y.2.1 pc = .ok (.arraylength, 1)) (h0 : 0 ≤ a) (hs : (sh a.toNat).1 = kd) (hk : 20 ≤ kd) (hn : (sh a.toNat).2 < 2147483648) (kk : e_T sh Y rm (pc + 1) ls (.inl ((sh a.toNat).2 : Int) :: st) g cs Q) : e_T sh Y rm pc ls (.inr (.inr (.inl a)) :: st) g cs Q := by
  intro p l e s m args below meth c D ad0 t0 ad H locs lsJ hC hE hI hL hls hst
  obtain ⟨ha, hs2⟩ := e_ok_pop hst
  obtain ⟨cell, q1, q2, q3, q4, q5⟩ := (hI.1.1 _ (e_al_of ha h0)).row (by rw [hs]; exact hk)
  rw [List.map_cons, show e_vv ad (.inr (.inr (.inl a))) = .ref (ad a.toNat) from e_rv_pos h0]
  exact W.alen hC.1 hC.2.1 q1 q2.1 (n := Int32.ofInt ((sh a.toNat).2 : Int)) (by rw [q4.2, Int32.ofInt_eq_ofNat]) rfl rfl hdg (kk p l e s m args below meth c D ad0 t0 ad H locs lsJ hC hE hI hL hls (e_ok_cons (v := .inl _) (show e_i32 _ from ⟨by omega, by omega⟩) e_ni hs2))
/-- a store into an array -/
theorem e_ast_aux {D : va_G} {s : State} {ad0 : Nat → Nat} {t0 : Nat} {ad : Nat → Nat} {H H1 : Heap} {locs : List Loc} {kd : Nat} {v : Int} {cell : Cell} (hI : e_I sh D s ad0 t0 ad g H locs) (hal : e_al g.2 a.toNat) (h1 : a.toNat < 1000000) (hs : (sh a.toNat).1 = kd) (hk : 20 ≤ kd) (hir : e_i32 i) (hi : 0 ≤ i ∧ i < ((sh a.toNat).2 : Int))
    (hso : e_so g.2 (e_tg kd 0) v) (hc : H[ad a.toNat]? = some cell) (e1 : H1[ad a.toNat]? = some (cell.setSlot (Int32.ofInt i).toNatClampNeg (e_sv ad (e_tg kd 0) v))) (e2 : H1.size = H.size) (e3 : ∀ q, q ≠ ad a.toNat → H1[q]? = H[q]?) :
    e_I sh D s ad0 t0 ad (e_up g.1 a.toNat i.toNat v, g.2) H1 (locs ++ [⟨ad a.toNat, (Int32.ofInt i).toNatClampNeg⟩]) := by
  obtain ⟨cell', q1, q2, q3, q4, q5⟩ := (hI.1.1 _ hal).row (by rw [hs]; exact hk)
  cases hc.symm.trans q1
  refine hI.put hal h1 (fun _ => by rw [hs, if_neg (by omega)]; exact hso) ⟨_, e1, Or.inr (Or.inl ⟨by rw [hs]; exact hk, q2.set, q3, by rw [k2_slotsz]; exact q4, fun j hj => ?_⟩)⟩ e2 e3
  rw [e_ix hir hi.1, e_up_at]
  show (cell.slots.setIfInBounds i.toNat _)[j]? = _
  by_cases hji : j = i.toNat
  · subst hji
    rw [if_pos rfl, hs]
    exact Array.getElem?_setIfInBounds_self_of_lt (Nat.lt_of_lt_of_le hj q4.1)
  · rw [if_neg hji, Array.getElem?_setIfInBounds_ne (fun z => hji z.symm)]
    exact q5 j hj
theorem e_iast (hdg : decode Y.2.1 pc = .ok (.iastore, 1)) (h0 : 0 ≤ a) (h1 : a.toNat < 1000000) (hs : (sh a.toNat).1 = 20) (hi : 0 ≤ i ∧ i < ((sh a.toNat).2 : Int)) (kk : e_T sh Y rm (pc + 1) ls st (e_up g.1 a.toNat i.toNat x, g.2) cs Q) : e_T sh Y rm pc ls (.inl x :: .inl i :: .inr (.inr (.inl a)) :: st) g cs Q := by
  intro p l e s m args below meth c D ad0 t0 ad H locs lsJ hC hE hI hL hls hst
  obtain ⟨hxr, hst1⟩ := e_ok_pop hst
  obtain ⟨hir, hst2⟩ := e_ok_pop hst1
  obtain ⟨ha, hs2⟩ := e_ok_pop hst2
  obtain ⟨cell, q1, q2, q3, q4, q5, q6⟩ := e_ald_aux hI.1 (e_al_of ha h0) hs (by decide) hir hi
  rw [List.map_cons, List.map_cons, List.map_cons, show e_vv ad (.inr (.inr (.inl a))) = .ref (ad a.toNat) from e_rv_pos h0]
  exact W.iast hC.1 hC.2.1 q1 q2 q3 q4 rfl rfl hdg (fun H1 e1 e2 e3 => kk p l e s m args below meth c D ad0 t0 ad H1 _ lsJ hC hE (e_ast_aux hI (e_al_of ha h0) h1 hs (by decide) hir hi (v := x) hxr q1 e1 e2 e3) hL hls hs2)
theorem e_last (hdg : decode Y.2.1 pc = .ok (.lastore, 1)) (h0 : 0 ≤ a) (h1 : a.toNat < 1000000) (hs : (sh a.toNat).1 = 23) (hi : 0 ≤ i ∧ i < ((sh a.toNat).2 : Int)) (kk : e_T sh Y rm (pc + 1) ls st (e_up g.1 a.toNat i.toNat x, g.2) cs Q) : e_T sh Y rm pc ls (.inr (.inl x) :: .inl i :: .inr (.inr (.inl a)) :: st) g cs Q := by
  intro p l e s m args below meth c D ad0 t0 ad H locs lsJ hC hE hI hL hls hst
  obtain ⟨hxr, hst1⟩ := e_ok_pop hst
  obtain ⟨hir, hst2⟩ := e_ok_pop hst1
  obtain ⟨ha, hs2⟩ := e_ok_pop hst2
  obtain ⟨cell, q1, q2, q3, q4, q5, q6⟩ := e_ald_aux hI.1 (e_al_of ha h0) hs (by decide) hir hi
  rw [List.map_cons, List.map_cons, List.map_cons, show e_vv ad (.inr (.inr (.inl a))) = .ref (ad a.toNat) from e_rv_pos h0]
  exact W.last hC.1 hC.2.1 q1 q2 q3 q4 rfl rfl hdg (fun H1 e1 e2 e3 => kk p l e s m args below meth c D ad0 t0 ad H1 _ lsJ hC hE (e_ast_aux hI (e_al_of ha h0) h1 hs (by decide) hir hi (v := x) hxr q1 e1 e2 e3) hL hls hs2)
theorem e_bast (hdg : decode Y.2.1 pc = .ok (.bastore, 1)) (h0 : 0 ≤ a) (h1 : a.toNat < 1000000) (hs : (sh a.toNat).1 = 22) (hi : 0 ≤ i ∧ i < ((sh a.toNat).2 : Int)) (kk : e_T sh Y rm (pc + 1) ls st (e_up g.1 a.toNat i.toNat (e_w8 x), g.2) cs Q) : e_T sh Y rm pc ls (.inl x :: .inl i :: .inr (.inr (.inl a)) :: st) g cs Q := by
  intro p l e s m args below meth c D ad0 t0 ad H locs lsJ hC hE hI hL hls hst
  obtain ⟨hxr, hst1⟩ := e_ok_pop hst
  obtain ⟨hir, hst2⟩ := e_ok_pop hst1
  obtain ⟨ha, hs2⟩ := e_ok_pop hst2
  obtain ⟨cell, q1, q2, q3, q4, q5, q6⟩ := e_ald_aux hI.1 (e_al_of ha h0) hs (by decide) hir hi
  rw [List.map_cons, List.map_cons, List.map_cons, show e_vv ad (.inr (.inr (.inl a))) = .ref (ad a.toNat) from e_rv_pos h0]
  exact W.bast hC.1 hC.2.1 q1 q2 q3 q4 rfl rfl hdg (fun H1 e1 e2 e3 => kk p l e s m args below meth c D ad0 t0 ad H1 _ lsJ hC hE (e_ast_aux hI (e_al_of ha h0) h1 hs (by decide) hir hi (v := e_w8 x) (e_w8_rng x) q1 (by rw [e1, narrow_byte, e_i2b]; rfl) e2 e3) hL hls hs2)
theorem e_zast (hdg : decode Y.2.1 pc = .ok (.bastore, 1)) (h0 : 0 ≤ a) (h1 : a.toNat < 1000000) (hs : (sh a.toNat).1 = 21) (hi : 0 ≤ i ∧ i < ((sh a.toNat).2 : Int)) (hx : x = 0 ∨ x = 1) (kk : e_T sh Y rm (pc + 1) ls st (e_up g.1 a.toNat i.toNat x, g.2) cs Q) : e_T sh Y rm pc ls (.inl x :: .inl i :: .inr (.inr (.inl a)) :: st) g cs Q := by
  intro p l e s m args below meth c D ad0 t0 ad H locs lsJ hC hE hI hL hls hst
  obtain ⟨hxr, hst1⟩ := e_ok_pop hst
  obtain ⟨hir, hst2⟩ := e_ok_pop hst1
  obtain ⟨ha, hs2⟩ := e_ok_pop hst2
  obtain ⟨cell, q1, q2, q3, q4, q5, q6⟩ := e_ald_aux hI.1 (e_al_of ha h0) hs (by decide) hir hi
  rw [List.map_cons, List.map_cons, List.map_cons, show e_vv ad (.inr (.inr (.inl a))) = .ref (ad a.toNat) from e_rv_pos h0]
  exact W.zast hC.1 hC.2.1 q1 q2 q3 q4 rfl rfl hdg (fun H1 e1 e2 e3 => kk p l e s m args below meth c D ad0 t0 ad H1 _ lsJ hC hE (e_ast_aux hI (e_al_of ha h0) h1 hs (by decide) hir hi (v := x) hx q1 (by rw [e1]; rcases hx with rfl | rfl <;> rfl) e2 e3) hL hls hs2)
theorem e_aast {kd : Nat} {v : Int} (hdg : decode Y.2.1 pc = .ok (.aastore, 1)) (h0 : 0 ≤ a) (h1 : a.toNat < 1000000) (hs : (sh a.toNat).1 = kd) (hk : 30 ≤ kd) (hi : 0 ≤ i ∧ i < ((sh a.toNat).2 : Int)) (hv0 : 0 ≤ v) (hv : (sh v.toNat).1 = kd - 30) (hk2 : kd < 43) (kk : e_T sh Y rm (pc + 1) ls st (e_up g.1 a.toNat i.toNat v, g.2) cs Q) :
    e_T sh Y rm pc ls (.inr (.inr (.inl v)) :: .inl i :: .inr (.inr (.inl a)) :: st) g cs Q := by
  intro p l e s m args below meth c D ad0 t0 ad H locs lsJ hC hE hI hL hls hst
  obtain ⟨hxr, hst1⟩ := e_ok_pop hst
  obtain ⟨hir, hst2⟩ := e_ok_pop hst1
  obtain ⟨ha, hs2⟩ := e_ok_pop hst2
  have hal := e_al_of ha h0
  have hvl := e_al_of hxr hv0
  obtain ⟨cell, q1, q2, q3, q4, q5, q6⟩ := e_ald_aux hI.1 hal hs (by omega) hir hi
  have ht : e_tg kd 0 = 4 := by unfold e_tg; rw [if_neg (by omega), if_neg (by omega), if_neg (by omega), if_neg (by omega), if_neg (by omega)]
  rw [ht] at q5 q6
  have hq : (e_cl[kd - 30]?) = some (e_cl[kd - 30]'(by show kd - 30 < 13; omega)) := List.getElem?_eq_getElem _
  generalize e_cl[kd - 30]'(by show kd - 30 < 13; omega) = q at hq
  obtain ⟨hn, cv, v1, v2, v3, -⟩ := (hI.1.1 _ hvl).obj (by rw [hv]; omega) (by rw [hv]; omega)
  rw [hv] at v2
  obtain ⟨hS, hfc, kC, hkC, hkind⟩ := hE.1 (kd - 30) _ hq
  obtain ⟨cell', w1, w2, w3, w4, -⟩ := (hI.1.1 _ hal).row (by rw [hs]; omega)
  cases q1.symm.trans w1
  rw [hs] at w2
  obtain ⟨kA, comp, a1, a2, a3⟩ : ∃ (kA : Class) (comp : ClassId), s.vm.classes[cell.cls]? = some kA ∧ kA.kind = .array comp (e_aty kd) ∧ s.vm.findClass (((e_cl[kd - 30]?).map (fun q => q.1)).getD "") = some comp := by
    rcases w2.2 with h | h
    · omega
    · exact h
  rw [hq] at a3
  cases hfc.symm.trans (show s.vm.findClass q.1 = some comp from a3)
  have href : (e_aty kd).isReference = true := by unfold e_aty; rw [if_neg (by omega), if_neg (by omega), if_neg (by omega), if_neg (by omega)]; rfl
  rw [List.map_cons, List.map_cons, List.map_cons, show e_vv ad (.inr (.inr (.inl a))) = .ref (ad a.toNat) from e_rv_pos h0, show e_vv ad (.inr (.inr (.inl v))) = .ref (ad v.toNat) from e_rv_pos hv0]
  refine W.aast hC.1 hC.2.1 q1 w2.1.1 w3 a1 a2 href hkC ⟨fun z => q4 (Or.inl z), by have := q4; omega⟩ v1 (fun z hz => by rw [v3] at hz; cases hz) (by rw [v2]; exact hkC) (by rw [v2]; exact va_asg _ _) rfl rfl hdg (fun H1 e1 e2 e3 => ?_)
  exact kk p l e s m args below meth c D ad0 t0 ad H1 _ lsJ hC hE (e_ast_aux hI hal h1 hs (by omega) hir hi (v := v) (by rw [ht]; exact hxr) q1 (by rw [e1, ht]; congr 2; exact (e_rv_pos hv0).symm) e2 e3) hL hls hs2
end HEAP
