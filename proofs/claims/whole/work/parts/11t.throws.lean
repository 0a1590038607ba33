/-! rows of the engine: a method that throws, a caller that catches, methods with a table of handlers -/
def e_NS : String := "java/util/NoSuchElementException"
section THROW
variable {sh : Nat → Nat × Nat} {Y : e_Y} {rm : Nat × Nat × Nat} {pc : Nat} {ls st : List e_V} {g : e_G} {cs : Nat × Nat} {Q : Option e_V → e_G → Prop} {x y a i : Int}
theorem e_Xc_of {D : va_G} {s t : State} {ad0 : Nat → Nat} {t0 : Nat} {ad : Nat → Nat} {H : Heap} {locs : List Loc} (hI : e_I sh D s ad0 t0 ad g H locs) (hQ : Q (some (.inr (.inr (.inr ())))) g) (hal : s.vm.Alike t.vm) (hz : H.size ≤ t.heap.size) (hk : ∀ q : Nat, q < H.size → t.heap[q]? = H[q]?) : e_Xc sh D ad0 t0 Q e_NS s t := by
  obtain ⟨hR, i2, i3, i4, i5, i6⟩ := hI
  refine ⟨rfl, g, ad, hQ, ⟨fun b hb => ((hR.1 b hb).moved hal).kept (hk _ (hR.1 b hb).lt), hR.2⟩, i2, i3, i4, ⟨Nat.le_trans i5.1 hz, fun q h1 h2 => (hk q (Nat.lt_of_lt_of_le h1 i5.1)).trans (i5.2.1 q h1 h2)⟩, (i6.moved hal).kept (fun q hq _ => hk q hq)⟩
/-- throw new NoSuchElementException("..") -/
theorem e_throwS {ik is ic : Nat} {text : String} {j : Nat} {names : List String} (hs : (Y.1.cls, is, text, j) ∈ e_strl) (hcls : Bundle.fit e_NS = true) (hnames : ∀ n ∈ names, Bundle.fit n = true)
    (hk : Cond.classLink Y.1.cls ik e_NS ∈ e_gd) (hini : Cond.initialized e_NS ∈ e_gd) (hat : ∀ w ∈ vx_atS Y.1.cls ic e_NS names, w ∈ e_gd) (hcode : Cond.code Y.1 Y.2.1 Y.2.2.1 Y.2.2.2 ∈ e_gd)
    (d0 : decode Y.2.1 pc = .ok (.new ik, 3)) (d3 : decode Y.2.1 (pc + 3) = .ok (.dup, 1)) (d4 : decode Y.2.1 (pc + 4) = .ok (.ldc is, 2)) (d6 : decode Y.2.1 (pc + 6) = .ok (.invokespecial ic, 3)) (d9 : decode Y.2.1 (pc + 9) = .ok (.athrow, 1))
    (hr : names.length + 4 ≤ rm.1) (hc : e_cat st ≤ 8) (h1 : cs.1 + 1 ≤ rm.2.1) (h2 : cs.2 + 6 ≤ rm.2.2) (hQ : Q (some (.inr (.inr (.inr ())))) g) : e_T sh Y rm pc ls st g cs Q := by
  intro p l e s m args below meth c D ad0 t0 ad H locs lsJ hC hE hI hL hls hst
  have hg : ∀ w ∈ e_gd, vx_ot w = true := fun w hw => by
    unfold vx_ot
    rw [(List.mem_filter.mp hw).2, Bool.or_true]
  have hcat := e_cat_le (ad := ad) (st := st)
  refine vx_throwS hC.1 hC.2.1 hC.2.2.2.2.2.2.2.2.1 (own := Y.1.cls) (cls := e_NS) (names := names) hC.2.2.2.2.1 hcls hnames (hC.2.2.2.2.2.1 _ hk) (hC.2.2.2.2.2.1 _ hini) (hE.2.2.2.2.2 _ hs) (fun w hw => hC.2.2.2.2.2.1 _ (hat w hw)) (fun w hw => ?_) hI.2.2.2.2.2.1.2.1 hI.2.2.2.2.2.1.2.2 (hL.1.trans hC.2.2.1.symm) d0 d3 d4 d6 d9 (fun z hz => (hC.2.2.2.2.2.2.2.2.2.1 hcode z hz).elim) ?_ ?_ ?_ ?_ hC.2.2.2.2.2.2.1 (fun t hal hz hkk => e_Xc_of hI hQ hal hz hkk) (fun z hz => hI.2.2.2.2.1.2.2 z hz) h1 h2
  · rcases List.mem_cons.mp hw with rfl | hw
    · exact hg _ hk
    · rcases List.mem_cons.mp hw with rfl | hw
      · exact hg _ hini
      · exact hg _ (hat w hw)
  · show names.length + 3 < rm.1
    omega
  · show _ ≤ 128 * rm.1
    omega
  · exact h1
  · exact h2
theorem e_throwSW {ik is ic : Nat} {text : String} {j : Nat} {names : List String} (hs : (Y.1.cls, is, text, j) ∈ e_strl) (hcls : Bundle.fit e_NS = true) (hnames : ∀ n ∈ names, Bundle.fit n = true)
    (hk : Cond.classLink Y.1.cls ik e_NS ∈ e_gd) (hini : Cond.initialized e_NS ∈ e_gd) (hat : ∀ w ∈ vx_atS Y.1.cls ic e_NS names, w ∈ e_gd) (hcode : Cond.code Y.1 Y.2.1 Y.2.2.1 Y.2.2.2 ∈ e_gd)
    (d0 : decode Y.2.1 pc = .ok (.new ik, 3)) (d3 : decode Y.2.1 (pc + 3) = .ok (.dup, 1)) (d4 : decode Y.2.1 (pc + 4) = .ok (.ldc_w is, 3)) (d7 : decode Y.2.1 (pc + 7) = .ok (.invokespecial ic, 3)) (d10 : decode Y.2.1 (pc + 10) = .ok (.athrow, 1))
    (hr : names.length + 4 ≤ rm.1) (hc : e_cat st ≤ 8) (h1 : cs.1 + 1 ≤ rm.2.1) (h2 : cs.2 + 6 ≤ rm.2.2) (hQ : Q (some (.inr (.inr (.inr ())))) g) : e_T sh Y rm pc ls st g cs Q := by
  intro p l e s m args below meth c D ad0 t0 ad H locs lsJ hC hE hI hL hls hst
  have hg : ∀ w ∈ e_gd, vx_ot w = true := fun w hw => by
    unfold vx_ot
    rw [(List.mem_filter.mp hw).2, Bool.or_true]
  have hcat := e_cat_le (ad := ad) (st := st)
  refine vx_throwSW hC.1 hC.2.1 hC.2.2.2.2.2.2.2.2.1 (own := Y.1.cls) (cls := e_NS) (names := names) hC.2.2.2.2.1 hcls hnames (hC.2.2.2.2.2.1 _ hk) (hC.2.2.2.2.2.1 _ hini) (hE.2.2.2.2.2 _ hs) (fun w hw => hC.2.2.2.2.2.1 _ (hat w hw)) (fun w hw => ?_) hI.2.2.2.2.2.1.2.1 hI.2.2.2.2.2.1.2.2 (hL.1.trans hC.2.2.1.symm) d0 d3 d4 d7 d10 (fun z hz => (hC.2.2.2.2.2.2.2.2.2.1 hcode z hz).elim) ?_ ?_ ?_ ?_ hC.2.2.2.2.2.2.1 (fun t hal hz hkk => e_Xc_of hI hQ hal hz hkk) (fun z hz => hI.2.2.2.2.1.2.2 z hz) h1 h2
  · rcases List.mem_cons.mp hw with rfl | hw
    · exact hg _ hk
    · rcases List.mem_cons.mp hw with rfl | hw
      · exact hg _ hini
      · exact hg _ (hat w hw)
  · show names.length + 3 < rm.1
    omega
  · show _ ≤ 128 * rm.1
    omega
  · exact h1
  · exact h2
/-- a method of ours that may throw, as its callers see it -/
theorem e_MetV {vs : List e_V} (l : Launch) (hl : l.stackTraces = false) (D : va_G) (ad : Nat → Nat) (sz : Nat) (hp : plainName Y.1.cls = true) (hvs : ∀ v ∈ vs, e_ok g.2 v ∧ v ≠ .inr (.inr (.inr ()))) (hn : (e_la vs).length ≤ Y.2.2.1)
    (h : e_T sh Y rm 0 (e_loc Y.2.2.1 vs) [] g (0, 0) Q) : vx_Met l Y.1 (e_ws Y) (e_rm rm) (e_Pc sh D ad g sz vs) (e_Qc sh D ad g.2 Q) (e_Xc sh D ad g.2 Q) rm.2.1 rm.2.2 (e_A ad g.2 sz) := by
  refine vx_ofW (cc := Y.2.1) (maxL := Y.2.2.1) (ret := Y.2.2.2) hp rfl ?_
  intro p e s m args below meth c s₁ B hml htab hv
  obtain ⟨rfl, hsz, hE, hR, hO⟩ := hv
  subst hsz
  have hts := atoms_spec (ws := e_ws Y) B.pre
  have hin : meth.name = Y.1.name := (name_of_methodNamed B.named B.method).1
  have htb : e_Tb c Y := ⟨fun _ => htab, fun hh hw => vx_table (x := Y.1) B (hts _ (List.mem_cons_of_mem _ hw))⟩
  have hC : e_Cx p l s m (vs.map (e_vv ad)).toArray meth c Y := ⟨B.exec, B.bytes, hml, B.returns, findClass_of_methodNamed B.named, fun w hw => hts w (List.mem_cons_of_mem _ hw), B.notSynchronized, hin, hl, htb⟩
  have hnu : ∀ v ∈ vs, v ≠ .inr (.inr (.inr ())) := fun v hv => (hvs v hv).2
  have hlv := lv_entry (vs.map (e_vv ad)) (n := Y.2.2.1) (by rw [e_la_len vs hnu]; exact hn)
  rw [lg_entry_eq]
  generalize (lg_sl (vs.map (e_vv ad)) ++ List.replicate (Y.2.2.1 - (lg_sl (vs.map (e_vv ad))).length) Slot.unset).toArray = lsJ at hlv ⊢
  have hL : e_L ad Y.2.2.1 (e_loc Y.2.2.1 vs) lsJ := by
    show lv_has lsJ _ (e_pr ad 0 (e_la vs ++ List.replicate (Y.2.2.1 - (e_la vs).length) _))
    rw [e_pr_loc vs 0 hnu]
    exact hlv
  exact h p l e s m _ below meth c D ad g.2 ad s.heap [] lsJ hC hE ⟨hR, fun _ _ => rfl, Nat.le_refl _, fun a h1 h2 => by omega, va_S.rf, hO⟩ hL (e_ok_loc fun v hv => (hvs v hv).1) (fun v hv => by cases hv)
/-- the words of a method with a table of handlers -/
def e_wsH (Y : e_Y) (hh : List (Nat × Nat × Nat × Nat)) : List Cond := .codeWith Y.1 Y.2.1 Y.2.2.1 Y.2.2.2 hh :: e_gd
theorem e_MetH {vs : List e_V} {hh : List (Nat × Nat × Nat × Nat)} (l : Launch) (hl : l.stackTraces = false) (D : va_G) (ad : Nat → Nat) (sz : Nat) (hp : plainName Y.1.cls = true) (hnc : Cond.code Y.1 Y.2.1 Y.2.2.1 Y.2.2.2 ∉ e_gd) (hvs : ∀ v ∈ vs, e_ok g.2 v ∧ v ≠ .inr (.inr (.inr ()))) (hn : (e_la vs).length ≤ Y.2.2.1)
    (h : e_T sh Y rm 0 (e_loc Y.2.2.1 vs) [] g (0, 0) Q) : vx_Met l Y.1 (e_wsH Y hh) (e_rm rm) (e_Pc sh D ad g sz vs) (e_Qc sh D ad g.2 Q) (e_Xc sh D ad g.2 Q) rm.2.1 rm.2.2 (e_A ad g.2 sz) := by
  refine vx_ofWH (cc := Y.2.1) (maxL := Y.2.2.1) (ret := Y.2.2.2) (hh := hh) hp rfl ?_
  intro p e s m args below meth c s₁ B hml hv
  obtain ⟨rfl, hsz, hE, hR, hO⟩ := hv
  subst hsz
  have hts := atoms_spec (ws := e_wsH Y hh) B.pre
  have hin : meth.name = Y.1.name := (name_of_methodNamed B.named B.method).1
  have htb : e_Tb c Y := ⟨fun hw => absurd hw hnc, fun hh hw => vx_table (x := Y.1) B (hts _ (List.mem_cons_of_mem _ hw))⟩
  have hC : e_Cx p l s m (vs.map (e_vv ad)).toArray meth c Y := ⟨B.exec, B.bytes, hml, B.returns, findClass_of_methodNamed B.named, fun w hw => hts w (List.mem_cons_of_mem _ hw), B.notSynchronized, hin, hl, htb⟩
  have hnu : ∀ v ∈ vs, v ≠ .inr (.inr (.inr ())) := fun v hv => (hvs v hv).2
  have hlv := lv_entry (vs.map (e_vv ad)) (n := Y.2.2.1) (by rw [e_la_len vs hnu]; exact hn)
  rw [lg_entry_eq]
  generalize (lg_sl (vs.map (e_vv ad)) ++ List.replicate (Y.2.2.1 - (lg_sl (vs.map (e_vv ad))).length) Slot.unset).toArray = lsJ at hlv ⊢
  have hL : e_L ad Y.2.2.1 (e_loc Y.2.2.1 vs) lsJ := by
    show lv_has lsJ _ (e_pr ad 0 (e_la vs ++ List.replicate (Y.2.2.1 - (e_la vs).length) _))
    rw [e_pr_loc vs 0 hnu]
    exact hlv
  exact h p l e s m _ below meth c D ad g.2 ad s.heap [] lsJ hC hE ⟨hR, fun _ _ => rfl, Nat.le_refl _, fun a h1 h2 => by omega, va_S.rf, hO⟩ hL (e_ok_loc fun v hv => (hvs v hv).1) (fun v hv => by cases hv)
/-- the memory behind a call -/
theorem e_I.after {D : va_G} {s t st0 : State} {ad0 : Nat → Nat} {t0 : Nat} {ad ad' : Nat → Nat} {H : Heap} {locs L : List Loc} {g' : e_G} (hI : e_I sh D s ad0 t0 ad g H locs) (hal : t.vm.Alike s.vm) (h0 : st0.heap = H) (hR' : e_Rep sh D t ad' g' t.heap) (c1 : ∀ a, e_al g.2 a → ad' a = ad a) (c2 : g.2 ≤ g'.2)
    (c3 : ∀ a, g.2 ≤ a → a < g'.2 → st0.heap.size ≤ ad' a) (c4 : va_F (e_A ad g.2 st0.heap.size) st0 t) (hO' : e_Old ad' (e_W ad' g'.2) t t.heap) (hL9 : ∀ q ∈ L, e_A ad g.2 H.size q.base) : e_I sh D s ad0 t0 ad' g' t.heap (locs ++ L) := by
  obtain ⟨hR, i2, i3, i4, i5, i6⟩ := hI
  rw [h0] at c3 c4
  have hAA : ∀ q, e_A ad g.2 H.size q → e_A ad0 t0 s.heap.size q := by
    intro q hq
    rcases hq with ⟨b, hb, rfl⟩ | hq
    · by_cases hbt : b < t0
      · exact Or.inl ⟨b, hbt, i2 b (Or.inl hbt)⟩
      · exact Or.inr (i4 b (by omega) hb)
    · exact Or.inr (Nat.le_trans i5.1 hq)
  refine ⟨hR'.moved hal, fun a ha => (c1 a (ha.mono i3)).trans (i2 a ha), Nat.le_trans i3 c2, fun a h1 h2 => ?_, ⟨Nat.le_trans i5.1 (by rw [← h0]; exact c4.1), fun q q1 q2 => ?_, fun q hq => ?_⟩, hO'.moved hal⟩
  · by_cases ha : a < g.2
    · rw [c1 a (Or.inl ha)]; exact i4 a h1 ha
    · exact Nat.le_trans i5.1 (c3 a (by omega) h2)
  · have h5 := c4.2 q (by rw [h0]; exact Nat.lt_of_lt_of_le q1 i5.1) (fun z => q2 (hAA q z))
    rw [h5, h0]
    exact i5.2.1 q q1 q2
  · rcases List.mem_append.mp hq with h | h
    · exact i5.2.2 q h
    · exact hAA _ (hL9 q h)
theorem e_L.store0 {ad : Nat → Nat} {nL i : Nat} {ls : List e_V} {lsJ : Array Slot} {w : Value} (hl : lv_has lsJ nL ((i, w) :: (e_pr ad 0 ls).filter (fun q => !(q.1 == i) && !(q.1 + 1 == i && q.2.category == 2)))) : e_L ad nL (e_s1 ls i (.inr (.inr (.inr ())))) lsJ := by
  refine ⟨hl.1, hl.2.1, fun q hq => ?_⟩
  obtain ⟨j, v, h1, h2, rfl⟩ := (e_pr_mem _ 0 _).mp hq
  rw [Nat.zero_add]
  rw [e_s1, List.getElem?_set] at h1
  by_cases hij : i = j
  · rw [if_pos hij] at h1
    split at h1
    · cases h1; exact absurd rfl h2
    · cases h1
  · rw [if_neg hij] at h1
    obtain ⟨h3, h4⟩ := e_cut_get h1 h2
    refine hl.2.2 _ (List.mem_cons_of_mem _ (List.mem_filter.mpr ⟨(e_pr_mem ls 0 _).mpr ⟨j, v, h3, h2, by rw [Nat.zero_add]⟩, ?_⟩))
    have n1 : ¬ j = i := fun e => hij e.symm
    simp only [Bool.and_eq_true, Bool.not_eq_true', beq_eq_false_iff_ne, ne_eq, Bool.and_eq_false_iff]
    refine ⟨n1, ?_⟩
    by_cases h5 : j + 1 = i
    · right
      intro hc
      obtain ⟨x, rfl⟩ := e_cat_iff hc
      exact h4 h5 x rfl
    · exact Or.inl h5
/-- behind a call that may throw: pc2 behind the handler's first instruction, that takes the exception into local k -/
def e_bx (sh : Nat → Nat × Nat) (Y : e_Y) (rm : Nat × Nat × Nat) (pc pc2 k : Nat) (ls st : List e_V) (t : Nat) (cs : Nat × Nat) (Q : Option e_V → e_G → Prop) : Option e_V → e_G → Prop := fun v g =>
  t ≤ g.2 → (v ≠ some (.inr (.inr (.inr ()))) → e_T sh Y rm pc ls (v.toList ++ st) g cs Q) ∧ (v = some (.inr (.inr (.inr ()))) → e_T sh Y rm pc2 (e_s1 ls k (.inr (.inr (.inr ())))) [] g cs Q)
theorem e_castSelf {args : Array Value} {s : State} {E : String} {c : ClassId} (h : s.vm.findClass E = some c) : (Cond.castable E E).before args s = true := by
  simp [Cond.before, Cond.holds, Cond.value, h, Vm.assignable_self]
/-- how the handler takes the exception -/
def e_hand (Y : e_Y) (h pc2 k : Nat) : Prop := k < Y.2.2.1 ∧ ((∃ n : Fin 4, (n : Nat) = k ∧ decode Y.2.1 h = .ok (.astore_n n, 1) ∧ pc2 = h + 1) ∨ (decode Y.2.1 h = .ok (.astore k, 2) ∧ pc2 = h + 2))
theorem e_callVX {Yc : e_Y} {rc : Nat × Nat × Nat} {vs : List e_V} {idx n kd a0 a1 hp ct pc2 k : Nat} (hdg : decode Y.2.1 pc = .ok (.invokevirtual idx, 3)) (hw : e_MW Yc n) (hv : e_VW Yc kd) (hl : Cond.methodLink Y.1.cls idx Yc.1 ∈ e_gd) (h0 : 0 ≤ a) (hs : (sh a.toNat).1 = kd) (hn : vs.length = n) (hm : (e_la (.inr (.inr (.inl a)) :: vs)).length ≤ Yc.2.2.1 ∧ Yc.2.2.1 ≤ 100) (hr : rc.1 + 1 ≤ rm.1) (h1 : cs.1 + rc.2.1 ≤ rm.2.1) (h2 : cs.2 + rc.2.2 ≤ rm.2.2) (hc : e_cat st ≤ 8)
    (htb : Cond.codeWith Y.1 Y.2.1 Y.2.2.1 Y.2.2.2 [(a0, a1, hp, ct)] ∈ e_gd) (hcov : a0 ≤ pc ∧ pc < a1) (hct : ct ≠ 0) (hlk : Cond.classLink Y.1.cls ct e_NS ∈ e_gd) (hha : e_hand Y hp pc2 k)
    (kk : e_T sh Yc rc 0 (e_loc Yc.2.2.1 (.inr (.inr (.inl a)) :: vs)) [] g (0, 0) (e_bx sh Y rm (pc + 3) pc2 k ls st g.2 (cs.1 + rc.2.1, cs.2 + rc.2.2) Q)) : e_T sh Y rm pc ls (vs.reverse ++ .inr (.inr (.inl a)) :: st) g cs Q := by
  intro p l e s m args below meth c D ad0 t0 ad H locs lsJ hC hE hI hL hls hst
  obtain ⟨hv1, hst1⟩ := e_ok_args hst
  obtain ⟨ha, hst2⟩ := e_ok_pop hst1
  have hav : ∀ w ∈ (.inr (.inr (.inl a)) : e_V) :: vs, e_ok g.2 w ∧ w ≠ .inr (.inr (.inr ())) := e_ok_cons ha e_na hv1
  have ea : e_vv ad (.inr (.inr (.inl a))) = .ref (ad a.toNat) := e_rv_pos h0
  have hr0 := vx_runV (g := F0 m pc lsJ ((vs.reverse ++ .inr (.inr (.inl a)) :: st).map (e_vv ad))) (rest := st.map (e_vv ad)) (cells := cs.1) (slots := cs.2) (locs := locs) (H := H) (below := below) (meth := meth) (e := e) (R := e_rm rm) ⟨hC.1, hC.2.1, hC.2.2.1, hC.2.2.2.2.1, hC.2.2.2.2.2.1⟩ (e_MetV l hC.2.2.2.2.2.2.2.2.1 D ad H.size hw.2.2.1 hav hm.1 kk)
    ⟨callB_of n hC.2.2.2.2.2.1 (e_goodIn hw.1) rfl rfl rfl (hC.2.2.2.2.2.1 _ hw.2.1) (hC.2.2.2.2.2.1 _ hl) ⟨hw.2.2.2.1.1, hw.2.2.2.1.2, hw.2.2.2.2⟩ (e_roomR hr hm.2), hC.2.2.2.2.2.1 _ hv.1, hC.2.2.2.2.2.1 _ hv.2.1⟩
    ⟨e_Pc_blind, e_recv hE hI.1 (e_al_of ha h0) hs hv, fun U hU hW => ⟨by rw [List.map_cons, ea], by rw [hU], hE.warm hW, by rw [hU]; exact hI.1.moved hW.alike, by rw [hU]; exact hI.2.2.2.2.2.moved hW.alike⟩⟩ rfl (by rw [List.length_map]; exact hn) hL.1 (by
      show _ = _ ++ _
      rw [List.map_append, List.map_reverse, List.map_cons, ea]) (by
      have := e_cat_le (ad := ad) (st := st)
      show 0 + _ ≤ 8
      omega) hdg ⟨h1, h2⟩
  intro T hT X
  rcases hr0 T hT X with ⟨v, st₀, t, T', L, e0, X', hL9, e1, e2, ⟨v2, g', ad', hQ, hv, hvo, hR', c1, c2, c3, c4, hO'⟩, stp⟩ | ⟨q, st₀, t, T', L, E, ce, e0, X', hL9, e1, e2, ⟨hEq, g', ad', hQ, hR', c1, c2, c3, c4, hO'⟩, hce, hcv, hcl, stp⟩
  · have hv : v = v2.map (e_vv ad') := by cases hv; rfl
    have hal : t.vm.Alike s.vm := by rw [← e2]; exact X'.warmed.alike.symm
    have hI' := hI.after hal e0 hR' c1 c2 c3 c4 hO' hL9
    have hst' : ∀ w ∈ v2.toList ++ st, e_ok g'.2 w ∧ w ≠ .inr (.inr (.inr ())) := by
      intro w hw
      rcases List.mem_append.mp hw with h | h
      · exact hvo w (by cases v2 <;> simp at h; rw [h])
      · exact ⟨(hst2 w h).1.mono c2, (hst2 w h).2⟩
    obtain ⟨t2, a1, b1⟩ := (hQ c2).1 (fun z => (hvo _ z).2 rfl) p l e s m args below meth c D ad0 t0 ad' t.heap (locs ++ L) lsJ hC hE hI' (hL.congr c1 hls) (fun w hw => (hls w hw).mono c2) hst' T' e1 X'
    refine ⟨t2, stp t2 ?_, b1⟩
    have e9 : v.toList ++ st.map (e_vv ad) = (v2.toList ++ st).map (e_vv ad') := by
      rw [hv, List.map_append, e_st_congr c1 hst2]
      cases v2 <;> rfl
    rw [e9]
    exact a1
  · have hal : t.vm.Alike s.vm := by rw [← e2]; exact X'.warmed.alike.symm
    have hI' := hI.after hal e0 hR' c1 c2 c3 c4 hO' hL9
    have hL' : e_L ad' Y.2.2.1 ls lsJ := hL.congr c1 hls
    have htab : c.exceptionTable.toList = [⟨a0, a1, hp, ct⟩] := hC.2.2.2.2.2.2.2.2.2.2 _ htb
    have hgo : ∀ lsJ', lv_has lsJ' Y.2.2.1 ((k, .ref q) :: (e_pr ad' 0 ls).filter (fun z => !(z.1 == k) && !(z.1 + 1 == k && z.2.category == 2))) → W p l e (e_rm rm) s m args below meth c t.heap (locs ++ L) (cs.1 + rc.2.1) (cs.2 + rc.2.2) (e_Fi below sh D ad0 t0 Q args s rm) (F0 m pc2 lsJ' []) := fun lsJ' h' =>
      (hQ c2).2 rfl p l e s m args below meth c D ad0 t0 ad' t.heap (locs ++ L) lsJ' hC hE hI' (e_L.store0 h') (e_ok_set trivial (e_ok_cut fun w hw => (hls w hw).mono c2)) (fun w hw => by cases hw)
    have hk : W p l e (e_rm rm) s m args below meth c t.heap (locs ++ L) (cs.1 + rc.2.1) (cs.2 + rc.2.2) (e_Fi below sh D ad0 t0 Q args s rm) (F0 m hp lsJ [.ref q]) := by
      rcases hha with ⟨hk1, ⟨n3, e3, d3, e4⟩ | ⟨d3, e4⟩⟩
      · subst e4
        subst e3
        exact lv_astore_n hC.1 hC.2.1 d3 rfl hL' hk1 rfl hgo
      · subst e4
        exact lv_astore hC.1 hC.2.1 d3 hL' hk1 rfl hgo
    have hx := vx_catch (pc := pc) (ls := lsJ) (rest := st.map (e_vv ad)) (E := E) (ce := ce) (q := q) hC.2.2.2.2.1 [] ⟨a0, a1, hp, ct⟩ [] htab (fun z hz => by cases hz) (by
      unfold covers
      simp only [Bool.and_eq_true, decide_eq_true_eq]
      exact hcov) hct (hC.2.2.2.2.2.1 _ hlk) (by rw [hEq]; rw [hEq] at hcl; exact e_castSelf hcl) hce hcv hcl hk
    obtain ⟨t2, a1, b1⟩ := hx T' e1 X'
    exact ⟨t2, stp.trans a1, b1⟩
/-- a call of a static method with a table of handlers, that doesn't throw -/
theorem e_callSH {Yc : e_Y} {rc : Nat × Nat × Nat} {vs : List e_V} {idx n : Nat} {hh : List (Nat × Nat × Nat × Nat)} (hdg : decode Y.2.1 pc = .ok (.invokestatic idx, 3)) (hp : plainName Yc.1.cls = true) (hw : Cond.codeWith Yc.1 Yc.2.1 Yc.2.2.1 Yc.2.2.2 hh ∈ e_gd) (hnc : Cond.code Yc.1 Yc.2.1 Yc.2.2.1 Yc.2.2.2 ∉ e_gd) (hini : Cond.initialized Yc.1.cls ∈ e_gd) (hy : Yc.1.cls ≠ "java/lang/invoke/MethodHandle" ∧ Yc.1.cls ≠ "java/lang/invoke/VarHandle" ∧ (parseMethodDescriptor Yc.1.desc).map (fun d => d.parameters.length) = some n)
    (hl : Cond.methodLink Y.1.cls idx Yc.1 ∈ e_gd) (hs : Cond.static Yc.1 ∈ e_gd) (hn : vs.length = n) (hm : (e_la vs).length ≤ Yc.2.2.1 ∧ Yc.2.2.1 ≤ 100) (hr : rc.1 + 1 ≤ rm.1) (h1 : cs.1 + rc.2.1 ≤ rm.2.1) (h2 : cs.2 + rc.2.2 ≤ rm.2.2) (hc : e_cat st ≤ 8)
    (kk : e_T sh Yc rc 0 (e_loc Yc.2.2.1 vs) [] g (0, 0) (e_bk sh Y rm (pc + 3) ls st g.2 (cs.1 + rc.2.1, cs.2 + rc.2.2) Q)) : e_T sh Y rm pc ls (vs.reverse ++ st) g cs Q := by
  intro p l e s m args below meth c D ad0 t0 ad H locs lsJ hC hE hI hL hls hst
  obtain ⟨hv1, hst2⟩ := e_ok_args hst
  have hG : GoodIn e_gd (va_wsS Y.1.cls idx Yc.1 (e_wsH Yc hh)) := by
    have hgd : ∀ w ∈ e_gd, w ∈ e_gd ∧ ((w.onTables && w.keeps) = true ∨ ∃ ty, w = .arrayClass ty) := fun w hw => ⟨hw, good_of_word (List.mem_filter.mp hw).2⟩
    intro w hw9
    unfold va_wsS at hw9
    rcases List.mem_append.mp hw9 with h | h
    · simp only [List.mem_cons, List.not_mem_nil, or_false] at h
      rcases h with rfl | rfl | rfl <;> first | exact hgd _ hl | exact hgd _ hs | exact hgd _ hini
    · rcases List.mem_cons.mp h with rfl | h
      · exact hgd _ hw
      · exact hgd _ h
  have hr0 := vx_runSX (hh := hh) (g := F0 m pc lsJ ((vs.reverse ++ st).map (e_vv ad))) (rest := st.map (e_vv ad)) (cells := cs.1) (slots := cs.2) (locs := locs) (H := H) (below := below) (meth := meth) (e := e) (R := e_rm rm) (As := vs.map (e_vv ad)) ⟨hC.1, hC.2.1, hC.2.2.1, hC.2.2.2.2.1, hC.2.2.2.2.2.1⟩ (e_MetH l hC.2.2.2.2.2.2.2.2.1 D ad H.size hp hnc hv1 hm.1 kk)
    (vx_cwSW (hh := hh) (bytes := Yc.2.1) (maxL := Yc.2.2.1) (ret := Yc.2.2.2) (own := Y.1.cls) (index := idx) n hC.2.2.2.2.2.1 hG rfl rfl rfl hy (e_roomR hr hm.2))
    ⟨e_Pc_blind, fun U hU hW => ⟨rfl, by rw [hU], hE.warm hW, by rw [hU]; exact hI.1.moved hW.alike, by rw [hU]; exact hI.2.2.2.2.2.moved hW.alike⟩⟩ rfl (by rw [List.length_map]; exact hn) hL.1 (by
      show _ = _ ++ _
      rw [List.map_append, List.map_reverse]) (by
      have := e_cat_le (ad := ad) (st := st)
      show 0 + _ ≤ 8
      omega) hdg ⟨h1, h2⟩
  intro T hT X
  rcases hr0 T hT X with ⟨v, st₀, t, T', L, e0, X', hL9, e1, e2, ⟨v2, g', ad', hQ, hv, hvo, hR', c1, c2, c3, c4, hO'⟩, stp⟩ | ⟨q, st₀, t, T', L, E, ce, e0, X', hL9, e1, e2, ⟨hEq, g', ad', hQ, hR', c1, c2, c3, c4, hO'⟩, hce, hcv, hcl, stp⟩
  · have hv : v = v2.map (e_vv ad') := by cases hv; rfl
    have hal : t.vm.Alike s.vm := by rw [← e2]; exact X'.warmed.alike.symm
    have hI' := hI.after hal e0 hR' c1 c2 c3 c4 hO' hL9
    have hst' : ∀ w ∈ v2.toList ++ st, e_ok g'.2 w ∧ w ≠ .inr (.inr (.inr ())) := by
      intro w hw
      rcases List.mem_append.mp hw with h | h
      · exact hvo w (by cases v2 <;> simp at h; rw [h])
      · exact ⟨(hst2 w h).1.mono c2, (hst2 w h).2⟩
    obtain ⟨t2, a1, b1⟩ := hQ.2 c2 p l e s m args below meth c D ad0 t0 ad' t.heap (locs ++ L) lsJ hC hE hI' (hL.congr c1 hls) (fun w hw => (hls w hw).mono c2) hst' T' e1 X'
    refine ⟨t2, stp t2 ?_, b1⟩
    have e9 : v.toList ++ st.map (e_vv ad) = (v2.toList ++ st).map (e_vv ad') := by
      rw [hv, List.map_append, e_st_congr c1 hst2]
      cases v2 <;> rfl
    rw [e9]
    exact a1
  · exact absurd rfl hQ.1
end THROW
