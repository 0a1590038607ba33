/-! rows of the engine: returns, entries, calls -/
section RET
variable {sh : Nat → Nat × Nat} {Y : e_Y} {rm : Nat × Nat × Nat} {pc : Nat} {ls st : List e_V} {g : e_G} {cs : Nat × Nat} {Q : Option e_V → e_G → Prop} {x y a i : Int}
theorem e_Qc_of {D : va_G} {s t : State} {ad0 : Nat → Nat} {t0 : Nat} {ad : Nat → Nat} {H : Heap} {locs : List Loc} {v : Option e_V} {args : Array Value} (hI : e_I sh D s ad0 t0 ad g H locs) (hv : ∀ w, v = some w → e_ok g.2 w ∧ w ≠ .inr (.inr (.inr ()))) (hQ : Q v g) (ht : t.heap = H) (hW : s.WarmedH t.vm) : e_Qc sh D ad0 t0 Q args s (.returned (v.map (e_vv ad))) t := by
  obtain ⟨hR, i2, i3, i4, i5, i6⟩ := hI
  exact ⟨v, g, ad, hQ, rfl, hv, by rw [ht]; exact hR.moved hW.alike, i2, i3, i4, i5.F ht, by rw [ht]; exact i6.moved hW.alike⟩
theorem e_iret (hdg : decode Y.2.1 pc = .ok (.ireturn, 1)) (hr : Y.2.2.2 = some .int) (h1 : cs.1 ≤ rm.2.1) (h2 : cs.2 ≤ rm.2.2) (hQ : Q (some (.inl x)) g) : e_T sh Y rm pc ls [.inl x] g cs Q := by
  intro p l e s m args below meth c D ad0 t0 ad H locs lsJ hC hE hI hL hls hst
  refine W.widen h1 h2 ?_
  exact vx_ret <| W.iret hC.1 hC.2.1 (hC.2.2.2.1.trans hr) (fun t ht hW => e_Qc_of (v := some (.inl x)) hI (fun w hw => by cases hw; exact hst _ List.mem_cons_self) hQ ht hW) hI.2.2.2.2.1.2.2 hdg hC.2.2.2.2.2.2.1
theorem e_zret (hdg : decode Y.2.1 pc = .ok (.ireturn, 1)) (hr : Y.2.2.2 = some .boolean) (hx : x = 0 ∨ x = 1) (h1 : cs.1 ≤ rm.2.1) (h2 : cs.2 ≤ rm.2.2) (hQ : Q (some (.inl x)) g) : e_T sh Y rm pc ls [.inl x] g cs Q := by
  intro p l e s m args below meth c D ad0 t0 ad H locs lsJ hC hE hI hL hls hst
  refine W.widen h1 h2 ?_
  exact vx_ret <| W.zret hC.1 hC.2.1 (hC.2.2.2.1.trans hr) (by rcases hx with rfl | rfl <;> rfl) (fun t ht hW => e_Qc_of (v := some (.inl x)) hI (fun w hw => by cases hw; exact hst _ List.mem_cons_self) hQ ht hW) hI.2.2.2.2.1.2.2 hdg hC.2.2.2.2.2.2.1
theorem e_lret (hdg : decode Y.2.1 pc = .ok (.lreturn, 1)) (hr : Y.2.2.2 = some .long) (h1 : cs.1 ≤ rm.2.1) (h2 : cs.2 ≤ rm.2.2) (hQ : Q (some (.inr (.inl x))) g) : e_T sh Y rm pc ls [.inr (.inl x)] g cs Q := by
  intro p l e s m args below meth c D ad0 t0 ad H locs lsJ hC hE hI hL hls hst
  refine W.widen h1 h2 ?_
  exact vx_ret <| W.lret hC.1 hC.2.1 (hC.2.2.2.1.trans hr) (fun t ht hW => e_Qc_of (v := some (.inr (.inl x))) hI (fun w hw => by cases hw; exact hst _ List.mem_cons_self) hQ ht hW) hI.2.2.2.2.1.2.2 hdg hC.2.2.2.2.2.2.1
theorem e_vret (hdg : decode Y.2.1 pc = .ok (.return_, 1)) (hr : Y.2.2.2 = none) (h1 : cs.1 ≤ rm.2.1) (h2 : cs.2 ≤ rm.2.2) (hQ : Q none g) : e_T sh Y rm pc ls [] g cs Q := by
  intro p l e s m args below meth c D ad0 t0 ad H locs lsJ hC hE hI hL hls hst
  refine W.widen h1 h2 ?_
  exact vx_ret <| W.vret hC.1 hC.2.1 (hC.2.2.2.1.trans hr) (fun t ht hW => e_Qc_of (v := none) hI (fun w hw => by cases hw) hQ ht hW) hI.2.2.2.2.1.2.2 hdg hC.2.2.2.2.2.2.1
theorem e_aret {ty : FieldType} (hdg : decode Y.2.1 pc = .ok (.areturn, 1)) (hr : Y.2.2.2 = some ty) (hty : (∃ n, ty = .object n) ∨ ∃ t, ty = .array t) (h1 : cs.1 ≤ rm.2.1) (h2 : cs.2 ≤ rm.2.2) (hQ : Q (some (.inr (.inr (.inl x)))) g) : e_T sh Y rm pc ls [.inr (.inr (.inl x))] g cs Q := by
  intro p l e s m args below meth c D ad0 t0 ad H locs lsJ hC hE hI hL hls hst
  refine W.widen h1 h2 ?_
  exact vx_ret <| W.aret hC.1 hC.2.1 (hC.2.2.2.1.trans hr) hty (by show e_rv ad x = .null ∨ ∃ a, e_rv ad x = .ref a; unfold e_rv; split; exact Or.inl rfl; exact Or.inr ⟨_, rfl⟩) (fun t ht hW => e_Qc_of (v := some (.inr (.inr (.inl x)))) hI (fun w hw => by cases hw; exact hst _ List.mem_cons_self) hQ ht hW) hI.2.2.2.2.1.2.2 hdg hC.2.2.2.2.2.2.1
end RET
/-- the locals with which a method begins -/
def e_la : List e_V → List e_V
  | [] => []
  | .inr (.inl x) :: r => .inr (.inl x) :: .inr (.inr (.inr ())) :: e_la r
  | v :: r => v :: e_la r
def e_loc (n : Nat) (vs : List e_V) : List e_V := e_la vs ++ List.replicate (n - (e_la vs).length) (.inr (.inr (.inr ())))
theorem e_pr_rep {ad : Nat → Nat} : ∀ (n k : Nat), e_pr ad k (List.replicate n (.inr (.inr (.inr ())))) = []
  | 0, _ => rfl
  | n + 1, k => by rw [List.replicate_succ]; exact e_pr_rep n (k + 1)
theorem e_pr_loc {ad : Nat → Nat} {n : Nat} : ∀ (vs : List e_V) (k : Nat), (∀ v ∈ vs, v ≠ .inr (.inr (.inr ()))) → e_pr ad k (e_la vs ++ List.replicate n (.inr (.inr (.inr ())))) = lv_args k (vs.map (e_vv ad))
  | [], k, _ => e_pr_rep n k
  | .inl x :: r, k, h => by
    have ih := e_pr_loc (ad := ad) (n := n) r (k + 1) (fun v hv => h v (List.mem_cons_of_mem _ hv))
    show (k, _) :: e_pr ad (k + 1) _ = (k, _) :: lv_args (if (Value.int (Int32.ofInt x)).category = 2 then k + 2 else k + 1) _
    rw [if_neg (by rw [show (Value.int (Int32.ofInt x)).category = 1 from rfl]; decide)]
    exact congrArg (List.cons _) ih
  | .inr (.inl x) :: r, k, h => by
    have ih := e_pr_loc (ad := ad) (n := n) r (k + 2) (fun v hv => h v (List.mem_cons_of_mem _ hv))
    show (k, _) :: e_pr ad (k + 1 + 1) _ = (k, _) :: lv_args (if (Value.long (Int64.ofInt x)).category = 2 then k + 2 else k + 1) _
    rw [if_pos (show (Value.long (Int64.ofInt x)).category = 2 from rfl)]
    exact congrArg (List.cons _) ih
  | .inr (.inr (.inl x)) :: r, k, h => by
    have ih := e_pr_loc (ad := ad) (n := n) r (k + 1) (fun v hv => h v (List.mem_cons_of_mem _ hv))
    show (k, _) :: e_pr ad (k + 1) _ = (k, _) :: lv_args (if (e_rv ad x).category = 2 then k + 2 else k + 1) _
    rw [if_neg (by rw [e_cat3]; decide)]
    exact congrArg (List.cons _) ih
  | .inr (.inr (.inr ())) :: r, k, h => absurd rfl (h _ List.mem_cons_self)
theorem e_la_len {ad : Nat → Nat} : ∀ (vs : List e_V), (∀ v ∈ vs, v ≠ .inr (.inr (.inr ()))) → (lg_sl (vs.map (e_vv ad))).length = (e_la vs).length
  | [], _ => rfl
  | .inl x :: r, h => by
    have ih := e_la_len (ad := ad) r (fun v hv => h v (List.mem_cons_of_mem _ hv))
    show (lg_sl (Value.int _ :: r.map (e_vv ad))).length = _
    rw [show lg_sl (Value.int (Int32.ofInt x) :: r.map (e_vv ad)) = .val (.int (Int32.ofInt x)) :: lg_sl (r.map (e_vv ad)) from rfl]
    exact congrArg (· + 1) ih
  | .inr (.inl x) :: r, h => by
    have ih := e_la_len (ad := ad) r (fun v hv => h v (List.mem_cons_of_mem _ hv))
    show (lg_sl (Value.long _ :: r.map (e_vv ad))).length = _
    rw [show lg_sl (Value.long (Int64.ofInt x) :: r.map (e_vv ad)) = .val (.long (Int64.ofInt x)) :: .second :: lg_sl (r.map (e_vv ad)) from rfl]
    exact congrArg (· + 2) ih
  | .inr (.inr (.inl x)) :: r, h => by
    have ih := e_la_len (ad := ad) r (fun v hv => h v (List.mem_cons_of_mem _ hv))
    show (lg_sl (e_rv ad x :: r.map (e_vv ad))).length = _
    have e1 : lg_sl (e_rv ad x :: r.map (e_vv ad)) = .val (e_rv ad x) :: lg_sl (r.map (e_vv ad)) := by
      unfold lg_sl
      rw [List.flatMap_cons, if_neg (by rw [e_cat3]; decide)]
      rfl
    rw [e1]
    exact congrArg (· + 1) ih
  | .inr (.inr (.inr ())) :: r, h => absurd rfl (h _ List.mem_cons_self)
theorem e_ok_la {t : Nat} : ∀ {vs : List e_V}, (∀ v ∈ vs, e_ok t v) → ∀ v ∈ e_la vs, e_ok t v
  | [], _ => fun v hv => by cases hv
  | .inl x :: r, h => List.forall_mem_cons.mpr ⟨h _ List.mem_cons_self, e_ok_la (fun v hv => h v (List.mem_cons_of_mem _ hv))⟩
  | .inr (.inl x) :: r, h => List.forall_mem_cons.mpr ⟨h _ List.mem_cons_self, List.forall_mem_cons.mpr ⟨trivial, e_ok_la (fun v hv => h v (List.mem_cons_of_mem _ hv))⟩⟩
  | .inr (.inr (.inl x)) :: r, h => List.forall_mem_cons.mpr ⟨h _ List.mem_cons_self, e_ok_la (fun v hv => h v (List.mem_cons_of_mem _ hv))⟩
  | .inr (.inr (.inr ())) :: r, h => List.forall_mem_cons.mpr ⟨trivial, e_ok_la (fun v hv => h v (List.mem_cons_of_mem _ hv))⟩
theorem e_ok_loc {t n : Nat} {vs : List e_V} (h : ∀ v ∈ vs, e_ok t v) : ∀ v ∈ e_loc n vs, e_ok t v := by
  intro v hv
  rcases List.mem_append.mp hv with h1 | h1
  · exact e_ok_la h v h1
  · rw [List.eq_of_mem_replicate h1]; trivial
/-- where a method begins -/
def e_Pc (sh : Nat → Nat × Nat) (D : va_G) (ad : Nat → Nat) (g : e_G) (sz : Nat) (vs : List e_V) : Array Value → State → Prop :=
  va_Pc (vs.map (e_vv ad)) (fun U => U.heap.size = sz ∧ e_Env D U ∧ e_Rep sh D U ad g U.heap ∧ e_Old ad (e_W ad g.2) U U.heap)
theorem e_Pc_blind {sh : Nat → Nat × Nat} {D : va_G} {ad : Nat → Nat} {g : e_G} {sz : Nat} {vs : List e_V} : FrameBlind (e_Pc sh D ad g sz vs) := by
  intro a U f mk q
  obtain ⟨h1, h2, h3, h4, h5⟩ := q
  have hal : U.vm.Alike (U.calling f mk a).vm := Vm.Alike.refl U.vm
  refine ⟨h1, h2, ⟨h3.1.moved hal, fun w hw => ?_, h3.2.2.1.moved hal, h3.2.2.2.1.moved hal, h3.2.2.2.2.1.moved hal, fun q hq => vk_R.same (u := U) rfl (h3.2.2.2.2.2 q hq)⟩, h4.moved hal, h5.moved hal⟩
  have h9 := h3.2.1 w hw
  have hn := (List.mem_filter.mp hw).2
  cases w <;> first | exact va_Nw.same (u := U) rfl rfl h9 | (exact absurd hn (by simp [e_isN]))
/-- a method of ours: what the tables say of it; n: how many arguments (without the receiver) -/
def e_MW (Y : e_Y) (n : Nat) : Prop := Cond.code Y.1 Y.2.1 Y.2.2.1 Y.2.2.2 ∈ e_gd ∧ Cond.initialized Y.1.cls ∈ e_gd ∧ plainName Y.1.cls = true ∧ (Y.1.cls ≠ "java/lang/invoke/MethodHandle" ∧ Y.1.cls ≠ "java/lang/invoke/VarHandle") ∧ (parseMethodDescriptor Y.1.desc).map (fun d => d.parameters.length) = some n
theorem e_goodIn {Y : e_Y} (h : Cond.code Y.1 Y.2.1 Y.2.2.1 Y.2.2.2 ∈ e_gd) : GoodIn e_gd (e_ws Y) := by
  have hg : ∀ w ∈ e_gd, w ∈ e_gd ∧ ((w.onTables && w.keeps) = true ∨ ∃ ty, w = .arrayClass ty) := fun w hw => ⟨hw, good_of_word (List.mem_filter.mp hw).2⟩
  intro w hw
  rcases List.mem_cons.mp hw with rfl | hw
  · exact hg _ h
  · exact hg w hw
/-- a frame that doesn't throw ends by its answer -/
theorem e_noX {p : Program} {l : Launch} {e : Env} {s : State} {m : MethodId} {args : Array Value} {below : List Frame} {meth : Method} {c : Code} {H : Heap} {locs : List Loc} {k n : Nat} {R : Room} {sh : Nat → Nat × Nat} {D : va_G} {ad0 : Nat → Nat} {t0 : Nat} {Q : Option e_V → e_G → Prop} {rm : Nat × Nat × Nat} {f : JFrame}
    (hno : ∀ g, ¬ Q (some (.inr (.inr (.inr ())))) g) (h : W p l e R s m args below meth c H locs k n (e_Fi below sh D ad0 t0 Q args s rm) f) : W p l e R s m args below meth c H locs k n (MQ below (e_Qc sh D ad0 t0 Q) args s rm.2.1 rm.2.2 (e_A ad0 t0 s.heap.size)) f := by
  intro T hT X
  obtain ⟨t, a1, o, b1, b2, ⟨b3, b4⟩ | ⟨q, ho, E, ce, L, ⟨hE, g', ad', q1, q2⟩, b4⟩⟩ := h T hT X
  · exact ⟨t, a1, o, b1, b2, b3, b4⟩
  · exact absurd q1 (hno g')
theorem e_Met {sh : Nat → Nat × Nat} {Y : e_Y} {rm : Nat × Nat × Nat} {g : e_G} {Q : Option e_V → e_G → Prop} {vs : List e_V} (l : Launch) (hl : l.stackTraces = false) (hno : ∀ g, ¬ Q (some (.inr (.inr (.inr ())))) g) (D : va_G) (ad : Nat → Nat) (sz : Nat) (hp : plainName Y.1.cls = true) (hvs : ∀ v ∈ vs, e_ok g.2 v ∧ v ≠ .inr (.inr (.inr ()))) (hn : (e_la vs).length ≤ Y.2.2.1)
    (h : e_T sh Y rm 0 (e_loc Y.2.2.1 vs) [] g (0, 0) Q) : Met l Y.1 (e_ws Y) (e_rm rm) (e_Pc sh D ad g sz vs) (e_Qc sh D ad g.2 Q) rm.2.1 rm.2.2 (e_A ad g.2 sz) := by
  refine Met.ofW (cc := Y.2.1) (maxL := Y.2.2.1) (ret := Y.2.2.2) hp rfl ?_
  intro p e s m args below meth c s₁ B hml hv
  obtain ⟨rfl, hsz, hE, hR, hO⟩ := hv
  subst hsz
  have hts := atoms_spec (ws := e_ws Y) B.pre
  have hin : meth.name = Y.1.name := (name_of_methodNamed B.named B.method).1
  have htb : e_Tb c Y := by
    refine ⟨fun _ => ?_, fun hh hw => vx_table (x := Y.1) B (hts _ (List.mem_cons_of_mem _ hw))⟩
    obtain ⟨meth9, c9, h1, h2, -, -, -, -, h7, -⟩ := Cond.code_spec B.named (hts _ List.mem_cons_self)
    cases Option.some.inj (h1.symm.trans B.method)
    cases Option.some.inj (h2.symm.trans (Stand.of_body B).code)
    intro x hx
    rw [Array.isEmpty_iff.mp h7] at hx
    cases hx
  have hC : e_Cx p l s m (vs.map (e_vv ad)).toArray meth c Y := ⟨B.exec, B.bytes, hml, B.returns, findClass_of_methodNamed B.named, fun w hw => hts w (List.mem_cons_of_mem _ hw), B.notSynchronized, hin, hl, htb⟩
  have hnu : ∀ v ∈ vs, v ≠ .inr (.inr (.inr ())) := fun v hv => (hvs v hv).2
  have hlv := lv_entry (vs.map (e_vv ad)) (n := Y.2.2.1) (by rw [e_la_len vs hnu]; exact hn)
  rw [lg_entry_eq]
  generalize (lg_sl (vs.map (e_vv ad)) ++ List.replicate (Y.2.2.1 - (lg_sl (vs.map (e_vv ad))).length) Slot.unset).toArray = lsJ at hlv ⊢
  have hL : e_L ad Y.2.2.1 (e_loc Y.2.2.1 vs) lsJ := by
    show lv_has lsJ _ (e_pr ad 0 (e_la vs ++ List.replicate (Y.2.2.1 - (e_la vs).length) _))
    rw [e_pr_loc vs 0 hnu]
    exact hlv
  exact e_noX hno <| h p l e s m _ below meth c D ad g.2 ad s.heap [] lsJ hC hE ⟨hR, fun _ _ => rfl, Nat.le_refl _, fun a h1 h2 => by omega, va_S.rf, hO⟩ hL (e_ok_loc fun v hv => (hvs v hv).1) (fun v hv => by cases hv)
section CALL
variable {sh : Nat → Nat × Nat} {Y : e_Y} {rm : Nat × Nat × Nat} {pc : Nat} {ls st : List e_V} {g : e_G} {cs : Nat × Nat} {Q : Option e_V → e_G → Prop} {x y a i : Int}
/-- behind a call: the answer on the stack -/
def e_bk (sh : Nat → Nat × Nat) (Y : e_Y) (rm : Nat × Nat × Nat) (pc : Nat) (ls st : List e_V) (t : Nat) (cs : Nat × Nat) (Q : Option e_V → e_G → Prop) : Option e_V → e_G → Prop := fun v g =>
  v ≠ some (.inr (.inr (.inr ()))) ∧ (t ≤ g.2 → e_T sh Y rm pc ls (v.toList ++ st) g cs Q)
theorem e_after {p : Program} {l : Launch} {e : Env} {s : State} {m : MethodId} {args : Array Value} {below : List Frame} {meth : Method} {c : Code} {D : va_G} {ad0 : Nat → Nat} {t0 : Nat} {ad : Nat → Nat} {H : Heap} {locs : List Loc} {lsJ : Array Slot} {aa : Array Value} {sJ : List Value} {mc ms : Nat}
    (hC : e_Cx p l s m args meth c Y) (hE : e_Env D s) (hI : e_I sh D s ad0 t0 ad g H locs) (hL : e_L ad Y.2.2.1 ls lsJ) (hls : ∀ v ∈ ls, e_ok g.2 v) (hst : ∀ v ∈ st, e_ok g.2 v ∧ v ≠ .inr (.inr (.inr ())))
    (hr : va_Run p l e (e_rm rm) s m args below meth c H locs cs.1 cs.2 mc ms (F0 m pc lsJ sJ) (st.map (e_vv ad)) (e_Qc sh D ad g.2 (e_bk sh Y rm (pc + 3) ls st g.2 (cs.1 + mc, cs.2 + ms) Q) aa) (e_A ad g.2 H.size)) :
    W p l e (e_rm rm) s m args below meth c H locs cs.1 cs.2 (e_Fi below sh D ad0 t0 Q args s rm) (F0 m pc lsJ sJ) := by
  intro T hT X
  obtain ⟨v, st₀, t, T', L, h0, X', hL9, e1, e2, ⟨v2, g', ad', hQ, hv, hvo, hR', c1, c2, c3, c4, hO'⟩, stp⟩ := hr T hT X
  obtain ⟨hR, i2, i3, i4, i5, i6⟩ := hI
  have hv : v = v2.map (e_vv ad') := by cases hv; rfl
  have hal : t.vm.Alike s.vm := by rw [← e2]; exact X'.warmed.alike.symm
  rw [h0] at c3 c4
  have hAA : ∀ q, q < s.heap.size ∨ True → e_A ad g.2 H.size q → e_A ad0 t0 s.heap.size q := by
    intro q _ hq
    rcases hq with ⟨b, hb, rfl⟩ | hq
    · by_cases hbt : b < t0
      · exact Or.inl ⟨b, hbt, i2 b (Or.inl hbt)⟩
      · exact Or.inr (i4 b (by omega) hb)
    · exact Or.inr (Nat.le_trans i5.1 hq)
  have hS' : va_S (e_A ad0 t0 s.heap.size) s.heap t.heap (locs ++ L) := by
    refine ⟨Nat.le_trans i5.1 (by rw [← h0]; exact c4.1), fun q q1 q2 => ?_, fun q hq => ?_⟩
    · have h5 := c4.2 q (by rw [h0]; exact Nat.lt_of_lt_of_le q1 i5.1) (fun z => q2 (hAA q (Or.inr trivial) z))
      rw [h5, h0]
      exact i5.2.1 q q1 q2
    · rcases List.mem_append.mp hq with h | h
      · exact i5.2.2 q h
      · exact hAA _ (Or.inr trivial) (hL9 q h)
  have hI' : e_I sh D s ad0 t0 ad' g' t.heap (locs ++ L) := by
    refine ⟨hR'.moved hal, fun a ha => (c1 a (ha.mono i3)).trans (i2 a ha), Nat.le_trans i3 c2, fun a h1 h2 => ?_, hS', hO'.moved hal⟩
    by_cases ha : a < g.2
    · rw [c1 a (Or.inl ha)]; exact i4 a h1 ha
    · exact Nat.le_trans i5.1 (c3 a (by omega) h2)
  have hst' : ∀ w ∈ v2.toList ++ st, e_ok g'.2 w ∧ w ≠ .inr (.inr (.inr ())) := by
    intro w hw
    rcases List.mem_append.mp hw with h | h
    · exact hvo w (by cases v2 <;> simp at h; rw [h])
    · exact ⟨(hst w h).1.mono c2, (hst w h).2⟩
  obtain ⟨t2, a1, b1⟩ := hQ.2 c2 p l e s m args below meth c D ad0 t0 ad' t.heap (locs ++ L) lsJ hC hE hI' (hL.congr c1 hls) (fun w hw => (hls w hw).mono c2) hst' T' e1 X'
  refine ⟨t2, stp t2 ?_, b1⟩
  have e9 : v.toList ++ st.map (e_vv ad) = (v2.toList ++ st).map (e_vv ad') := by
    rw [hv, List.map_append, e_st_congr c1 hst]
    cases v2 <;> rfl
  rw [e9]
  exact a1
theorem e_ok_args {vs : List e_V} (h : ∀ w ∈ vs.reverse ++ st, e_ok g.2 w ∧ w ≠ .inr (.inr (.inr ()))) : (∀ w ∈ vs, e_ok g.2 w ∧ w ≠ .inr (.inr (.inr ()))) ∧ ∀ w ∈ st, e_ok g.2 w ∧ w ≠ .inr (.inr (.inr ())) :=
  ⟨fun w hw => h w (List.mem_append_left _ (List.mem_reverse.mpr hw)), fun w hw => h w (List.mem_append_right _ hw)⟩
/-- how much of the stack stays below -/
def e_cat (st : List e_V) : Nat := (st.map fun v => match v with | .inr (.inl _) => 2 | _ => 1).sum
theorem e_cat_le {ad : Nat → Nat} : ∀ {st : List e_V}, ((st.map (e_vv ad)).map fun v => v.category).sum ≤ e_cat st
  | [] => Nat.le_refl _
  | v :: r => by
    have ih := e_cat_le (ad := ad) (st := r)
    unfold e_cat at *
    simp only [List.map_cons, List.sum_cons]
    have h1 : (e_vv ad v).category ≤ (match v with | .inr (.inl _) => 2 | _ => 1) := by
      rcases v with x | x | x | x
      · exact Nat.le_refl _
      · exact Nat.le_refl _
      · show (e_rv ad x).category ≤ 1; rw [e_cat3]; exact Nat.le_refl _
      · exact Nat.le_refl _
    omega
section
variable {Yc : e_Y} {rc : Nat × Nat × Nat} {vs : List e_V} {idx n : Nat}
theorem e_roomR (h : rc.1 + 1 ≤ rm.1) (hm : Yc.2.2.1 ≤ 100) : (e_rm rc).frames + 1 ≤ (e_rm rm).frames ∧ 8 + (Yc.2.2.1 + 11) + (e_rm rc).locals ≤ (e_rm rm).locals := ⟨h, by show 8 + (Yc.2.2.1 + 11) + 128 * rc.1 ≤ 128 * rm.1; omega⟩
/-- a call of a static method of the own class -/
theorem e_callS (hdg : decode Y.2.1 pc = .ok (.invokestatic idx, 3)) (hw : e_MW Yc n) (hl : Cond.methodLink Y.1.cls idx Yc.1 ∈ e_gd) (hs : Cond.static Yc.1 ∈ e_gd) (hn : vs.length = n) (hm : (e_la vs).length ≤ Yc.2.2.1 ∧ Yc.2.2.1 ≤ 100) (hr : rc.1 + 1 ≤ rm.1) (h1 : cs.1 + rc.2.1 ≤ rm.2.1) (h2 : cs.2 + rc.2.2 ≤ rm.2.2) (hc : e_cat st ≤ 8)
    (k : e_T sh Yc rc 0 (e_loc Yc.2.2.1 vs) [] g (0, 0) (e_bk sh Y rm (pc + 3) ls st g.2 (cs.1 + rc.2.1, cs.2 + rc.2.2) Q)) : e_T sh Y rm pc ls (vs.reverse ++ st) g cs Q := by
  intro p l e s m args below meth c D ad0 t0 ad H locs lsJ hC hE hI hL hls hst
  obtain ⟨hv, hst2⟩ := e_ok_args hst
  refine e_after hC hE hI hL hls hst2 (aa := (vs.map (e_vv ad)).toArray) (mc := rc.2.1) (ms := rc.2.2) ?_
  refine va_runS ⟨hC.1, hC.2.1, hC.2.2.1, hC.2.2.2.2.1, hC.2.2.2.2.2.1⟩ (e_Met l hC.2.2.2.2.2.2.2.2.1 (fun _ h => h.1 rfl) D ad H.size hw.2.2.1 hv hm.1 k)
    ⟨callB_of n hC.2.2.2.2.2.1 (e_goodIn hw.1) rfl rfl rfl (hC.2.2.2.2.2.1 _ hw.2.1) (hC.2.2.2.2.2.1 _ hl) ⟨hw.2.2.2.1.1, hw.2.2.2.1.2, hw.2.2.2.2⟩ (e_roomR hr hm.2), hC.2.2.2.2.2.1 _ hs⟩
    ⟨e_Pc_blind, fun U hU hW => ⟨rfl, by rw [hU], hE.warm hW, by rw [hU]; exact hI.1.moved hW.alike, by rw [hU]; exact hI.2.2.2.2.2.moved hW.alike⟩⟩ rfl (by rw [List.length_map]; exact hn) hL.1 ?_ ?_ hdg ⟨h1, h2⟩
  · show _ = _ ++ _
    rw [List.map_append, List.map_reverse]
  · have := e_cat_le (ad := ad) (st := st)
    show 0 + _ ≤ 8
    omega
theorem e_callSN {host : String} (hdg : decode Y.2.1 pc = .ok (.invokestatic idx, 3)) (hw : e_MW Yc n) (hl : Cond.methodLinkNest Y.1.cls idx Yc.1 host ∈ e_nest) (hs : Cond.static Yc.1 ∈ e_gd) (hn : vs.length = n) (hm : (e_la vs).length ≤ Yc.2.2.1 ∧ Yc.2.2.1 ≤ 100) (hr : rc.1 + 1 ≤ rm.1) (h1 : cs.1 + rc.2.1 ≤ rm.2.1) (h2 : cs.2 + rc.2.2 ≤ rm.2.2) (hc : e_cat st ≤ 8)
    (k : e_T sh Yc rc 0 (e_loc Yc.2.2.1 vs) [] g (0, 0) (e_bk sh Y rm (pc + 3) ls st g.2 (cs.1 + rc.2.1, cs.2 + rc.2.2) Q)) : e_T sh Y rm pc ls (vs.reverse ++ st) g cs Q := by
  intro p l e s m args below meth c D ad0 t0 ad H locs lsJ hC hE hI hL hls hst
  obtain ⟨hv, hst2⟩ := e_ok_args hst
  refine e_after hC hE hI hL hls hst2 (aa := (vs.map (e_vv ad)).toArray) (mc := rc.2.1) (ms := rc.2.2) ?_
  refine va_runSN ⟨hC.1, hC.2.1, hC.2.2.1, hC.2.2.2.2.1, hC.2.2.2.2.2.1⟩ (e_Met l hC.2.2.2.2.2.2.2.2.1 (fun _ h => h.1 rfl) D ad H.size hw.2.2.1 hv hm.1 k)
    ⟨va_cnB n hC.2.2.2.2.2.1 (e_goodIn hw.1) rfl rfl rfl (hE.2.1 _ hl) (hC.2.2.2.2.2.1 _ hw.2.1) ⟨hw.2.2.2.1.1, hw.2.2.2.1.2, hw.2.2.2.2⟩ (e_roomR hr hm.2), hC.2.2.2.2.2.1 _ hs, trivial⟩
    ⟨e_Pc_blind, fun U hU hW => ⟨rfl, by rw [hU], hE.warm hW, by rw [hU]; exact hI.1.moved hW.alike, by rw [hU]; exact hI.2.2.2.2.2.moved hW.alike⟩⟩ rfl (by rw [List.length_map]; exact hn) hL.1 ?_ ?_ hdg ⟨h1, h2⟩
  · show _ = _ ++ _
    rw [List.map_append, List.map_reverse]
  · have := e_cat_le (ad := ad) (st := st)
    show 0 + _ ≤ 8
    omega
/-- a method of an object: what the tables say of its choice -/
def e_VW (Y : e_Y) (kd : Nat) : Prop := Cond.instanceMethod Y.1 ∈ e_gd ∧ Cond.selects Y.1.cls Y.1 Y.1 ∈ e_gd ∧ e_cl[kd]?.map (fun q => q.1) = some Y.1.cls
theorem e_recv {D : va_G} {s : State} {ad : Nat → Nat} {H : Heap} {kd : Nat} (hE : e_Env D s) (hR : e_Rep sh D s ad g H) (hal : e_al g.2 a.toNat) (hs : (sh a.toNat).1 = kd) (hv : e_VW Yc kd) : ∃ cell : Cell, H[ad a.toNat]? = some cell ∧ cell.vm.isStatics = false ∧ s.vm.findClass Yc.1.cls = some cell.cls := by
  obtain ⟨q, hq, hq2⟩ := Option.map_eq_some_iff.mp hv.2.2
  obtain ⟨hn, cell, q1, q2, q3, q4⟩ := (hR.1 _ hal).obj (by rw [hs]; exact e_cl_lt hq) (by rw [hs]; exact e_cl_ne hq)
  rw [hs] at q2
  exact ⟨cell, q1, by rw [q3]; rfl, by rw [q2, ← hq2]; exact (hE.1 kd q hq).2.1⟩
theorem e_callV {kd : Nat} (hdg : decode Y.2.1 pc = .ok (.invokevirtual idx, 3)) (hw : e_MW Yc n) (hv : e_VW Yc kd) (hl : Cond.methodLink Y.1.cls idx Yc.1 ∈ e_gd) (h0 : 0 ≤ a) (hs : (sh a.toNat).1 = kd) (hn : vs.length = n) (hm : (e_la (.inr (.inr (.inl a)) :: vs)).length ≤ Yc.2.2.1 ∧ Yc.2.2.1 ≤ 100) (hr : rc.1 + 1 ≤ rm.1) (h1 : cs.1 + rc.2.1 ≤ rm.2.1) (h2 : cs.2 + rc.2.2 ≤ rm.2.2) (hc : e_cat st ≤ 8)
    (k : e_T sh Yc rc 0 (e_loc Yc.2.2.1 (.inr (.inr (.inl a)) :: vs)) [] g (0, 0) (e_bk sh Y rm (pc + 3) ls st g.2 (cs.1 + rc.2.1, cs.2 + rc.2.2) Q)) : e_T sh Y rm pc ls (vs.reverse ++ .inr (.inr (.inl a)) :: st) g cs Q := by
  intro p l e s m args below meth c D ad0 t0 ad H locs lsJ hC hE hI hL hls hst
  obtain ⟨hv1, hst1⟩ := e_ok_args hst
  obtain ⟨ha, hst2⟩ := e_ok_pop hst1
  have hav : ∀ w ∈ (.inr (.inr (.inl a)) : e_V) :: vs, e_ok g.2 w ∧ w ≠ .inr (.inr (.inr ())) := e_ok_cons ha e_na hv1
  have ea : e_vv ad (.inr (.inr (.inl a))) = .ref (ad a.toNat) := e_rv_pos h0
  refine e_after hC hE hI hL hls hst2 (aa := (Value.ref (ad a.toNat) :: vs.map (e_vv ad)).toArray) (mc := rc.2.1) (ms := rc.2.2) ?_
  refine va_runV ⟨hC.1, hC.2.1, hC.2.2.1, hC.2.2.2.2.1, hC.2.2.2.2.2.1⟩ (e_Met l hC.2.2.2.2.2.2.2.2.1 (fun _ h => h.1 rfl) D ad H.size hw.2.2.1 hav hm.1 k)
    ⟨callB_of n hC.2.2.2.2.2.1 (e_goodIn hw.1) rfl rfl rfl (hC.2.2.2.2.2.1 _ hw.2.1) (hC.2.2.2.2.2.1 _ hl) ⟨hw.2.2.2.1.1, hw.2.2.2.1.2, hw.2.2.2.2⟩ (e_roomR hr hm.2), hC.2.2.2.2.2.1 _ hv.1, hC.2.2.2.2.2.1 _ hv.2.1⟩
    ⟨e_Pc_blind, e_recv hE hI.1 (e_al_of ha h0) hs hv, fun U hU hW => ⟨by rw [List.map_cons, ea], by rw [hU], hE.warm hW, by rw [hU]; exact hI.1.moved hW.alike, by rw [hU]; exact hI.2.2.2.2.2.moved hW.alike⟩⟩ rfl (by rw [List.length_map]; exact hn) hL.1 ?_ ?_ hdg ⟨h1, h2⟩
  · show _ = _ ++ _
    rw [List.map_append, List.map_reverse, List.map_cons, ea]
  · have := e_cat_le (ad := ad) (st := st)
    show 0 + _ ≤ 8
    omega
theorem e_callVN {kd : Nat} {host : String} (hdg : decode Y.2.1 pc = .ok (.invokevirtual idx, 3)) (hw : e_MW Yc n) (hv : e_VW Yc kd) (hl : Cond.methodLinkNest Y.1.cls idx Yc.1 host ∈ e_nest) (h0 : 0 ≤ a) (hs : (sh a.toNat).1 = kd) (hn : vs.length = n) (hm : (e_la (.inr (.inr (.inl a)) :: vs)).length ≤ Yc.2.2.1 ∧ Yc.2.2.1 ≤ 100) (hr : rc.1 + 1 ≤ rm.1) (h1 : cs.1 + rc.2.1 ≤ rm.2.1) (h2 : cs.2 + rc.2.2 ≤ rm.2.2) (hc : e_cat st ≤ 8)
    (k : e_T sh Yc rc 0 (e_loc Yc.2.2.1 (.inr (.inr (.inl a)) :: vs)) [] g (0, 0) (e_bk sh Y rm (pc + 3) ls st g.2 (cs.1 + rc.2.1, cs.2 + rc.2.2) Q)) : e_T sh Y rm pc ls (vs.reverse ++ .inr (.inr (.inl a)) :: st) g cs Q := by
  intro p l e s m args below meth c D ad0 t0 ad H locs lsJ hC hE hI hL hls hst
  obtain ⟨hv1, hst1⟩ := e_ok_args hst
  obtain ⟨ha, hst2⟩ := e_ok_pop hst1
  have hav : ∀ w ∈ (.inr (.inr (.inl a)) : e_V) :: vs, e_ok g.2 w ∧ w ≠ .inr (.inr (.inr ())) := e_ok_cons ha e_na hv1
  have ea : e_vv ad (.inr (.inr (.inl a))) = .ref (ad a.toNat) := e_rv_pos h0
  refine e_after hC hE hI hL hls hst2 (aa := (Value.ref (ad a.toNat) :: vs.map (e_vv ad)).toArray) (mc := rc.2.1) (ms := rc.2.2) ?_
  refine va_runVN ⟨hC.1, hC.2.1, hC.2.2.1, hC.2.2.2.2.1, hC.2.2.2.2.2.1⟩ (e_Met l hC.2.2.2.2.2.2.2.2.1 (fun _ h => h.1 rfl) D ad H.size hw.2.2.1 hav hm.1 k)
    ⟨va_cnB n hC.2.2.2.2.2.1 (e_goodIn hw.1) rfl rfl rfl (hE.2.1 _ hl) (hC.2.2.2.2.2.1 _ hw.2.1) ⟨hw.2.2.2.1.1, hw.2.2.2.1.2, hw.2.2.2.2⟩ (e_roomR hr hm.2), hC.2.2.2.2.2.1 _ hv.1, hC.2.2.2.2.2.1 _ hv.2.1⟩
    ⟨e_Pc_blind, e_recv hE hI.1 (e_al_of ha h0) hs hv, fun U hU hW => ⟨by rw [List.map_cons, ea], by rw [hU], hE.warm hW, by rw [hU]; exact hI.1.moved hW.alike, by rw [hU]; exact hI.2.2.2.2.2.moved hW.alike⟩⟩ rfl (by rw [List.length_map]; exact hn) hL.1 ?_ ?_ hdg ⟨h1, h2⟩
  · show _ = _ ++ _
    rw [List.map_append, List.map_reverse, List.map_cons, ea]
  · have := e_cat_le (ad := ad) (st := st)
    show 0 + _ ≤ 8
    omega
/-- a constructor's call -/
theorem e_callI (hdg : decode Y.2.1 pc = .ok (.invokespecial idx, 3)) (hw : e_MW Yc n) (hret : Yc.2.2.2 = none) (hi : Yc.1.name = "<init>") (hin : Cond.instanceMethod Yc.1 ∈ e_gd) (hl : Cond.methodLink Y.1.cls idx Yc.1 ∈ e_gd) (h0 : 0 ≤ a) (hn : vs.length = n) (hm : (e_la (.inr (.inr (.inl a)) :: vs)).length ≤ Yc.2.2.1 ∧ Yc.2.2.1 ≤ 100) (hr : rc.1 + 1 ≤ rm.1) (h1 : cs.1 + rc.2.1 ≤ rm.2.1) (h2 : cs.2 + rc.2.2 ≤ rm.2.2) (hc : e_cat st ≤ 8)
    (k : e_T sh Yc rc 0 (e_loc Yc.2.2.1 (.inr (.inr (.inl a)) :: vs)) [] g (0, 0) (e_bk sh Y rm (pc + 3) ls st g.2 (cs.1 + rc.2.1, cs.2 + rc.2.2) Q)) : e_T sh Y rm pc ls (vs.reverse ++ .inr (.inr (.inl a)) :: st) g cs Q := by
  intro p l e s m args below meth c D ad0 t0 ad H locs lsJ hC hE hI hL hls hst
  obtain ⟨hv1, hst1⟩ := e_ok_args hst
  obtain ⟨ha, hst2⟩ := e_ok_pop hst1
  have hav : ∀ w ∈ (.inr (.inr (.inl a)) : e_V) :: vs, e_ok g.2 w ∧ w ≠ .inr (.inr (.inr ())) := e_ok_cons ha e_na hv1
  have ea : e_vv ad (.inr (.inr (.inl a))) = .ref (ad a.toNat) := e_rv_pos h0
  refine e_after hC hE hI hL hls hst2 (aa := (Value.ref (ad a.toNat) :: vs.map (e_vv ad)).toArray) (mc := rc.2.1) (ms := rc.2.2) ?_
  refine va_runI (bytes := Yc.2.1) (maxL := Yc.2.2.1) (n := n) ⟨hC.1, hC.2.1, hC.2.2.1, hC.2.2.2.2.1, hC.2.2.2.2.2.1⟩ (e_Met l hC.2.2.2.2.2.2.2.2.1 (fun _ h => h.1 rfl) D ad H.size hw.2.2.1 hav hm.1 k)
    ⟨by rw [← hret]; exact callB_of n hC.2.2.2.2.2.1 (e_goodIn hw.1) rfl rfl rfl (hC.2.2.2.2.2.1 _ hw.2.1) (hC.2.2.2.2.2.1 _ hl) ⟨hw.2.2.2.1.1, hw.2.2.2.1.2, hw.2.2.2.2⟩ (e_roomR hr hm.2), hi, hC.2.2.2.2.2.1 _ hin⟩
    ⟨e_Pc_blind, fun U hU hW => ⟨by rw [List.map_cons, ea], by rw [hU], hE.warm hW, by rw [hU]; exact hI.1.moved hW.alike, by rw [hU]; exact hI.2.2.2.2.2.moved hW.alike⟩⟩ rfl (by rw [List.length_map]; exact hn) hL.1 ?_ ?_ hdg ⟨h1, h2⟩
  · show _ = _ ++ _
    rw [List.map_append, List.map_reverse, List.map_cons, ea]
  · have := e_cat_le (ad := ad) (st := st)
    show 0 + _ ≤ 8
    omega
theorem e_callIN {host : String} (hdg : decode Y.2.1 pc = .ok (.invokespecial idx, 3)) (hw : e_MW Yc n) (hret : Yc.2.2.2 = none) (hi : Yc.1.name = "<init>") (hin : Cond.instanceMethod Yc.1 ∈ e_gd) (hl : Cond.methodLinkNest Y.1.cls idx Yc.1 host ∈ e_nest) (h0 : 0 ≤ a) (hn : vs.length = n) (hm : (e_la (.inr (.inr (.inl a)) :: vs)).length ≤ Yc.2.2.1 ∧ Yc.2.2.1 ≤ 100) (hr : rc.1 + 1 ≤ rm.1) (h1 : cs.1 + rc.2.1 ≤ rm.2.1) (h2 : cs.2 + rc.2.2 ≤ rm.2.2) (hc : e_cat st ≤ 8)
    (k : e_T sh Yc rc 0 (e_loc Yc.2.2.1 (.inr (.inr (.inl a)) :: vs)) [] g (0, 0) (e_bk sh Y rm (pc + 3) ls st g.2 (cs.1 + rc.2.1, cs.2 + rc.2.2) Q)) : e_T sh Y rm pc ls (vs.reverse ++ .inr (.inr (.inl a)) :: st) g cs Q := by
  intro p l e s m args below meth c D ad0 t0 ad H locs lsJ hC hE hI hL hls hst
  obtain ⟨hv1, hst1⟩ := e_ok_args hst
  obtain ⟨ha, hst2⟩ := e_ok_pop hst1
  have hav : ∀ w ∈ (.inr (.inr (.inl a)) : e_V) :: vs, e_ok g.2 w ∧ w ≠ .inr (.inr (.inr ())) := e_ok_cons ha e_na hv1
  have ea : e_vv ad (.inr (.inr (.inl a))) = .ref (ad a.toNat) := e_rv_pos h0
  refine e_after hC hE hI hL hls hst2 (aa := (Value.ref (ad a.toNat) :: vs.map (e_vv ad)).toArray) (mc := rc.2.1) (ms := rc.2.2) ?_
  refine va_runIN (bytes := Yc.2.1) (maxL := Yc.2.2.1) (n := n) (host := host) ⟨hC.1, hC.2.1, hC.2.2.1, hC.2.2.2.2.1, hC.2.2.2.2.2.1⟩ (e_Met l hC.2.2.2.2.2.2.2.2.1 (fun _ h => h.1 rfl) D ad H.size hw.2.2.1 hav hm.1 k)
    ⟨by rw [← hret]; exact va_cnB n hC.2.2.2.2.2.1 (e_goodIn hw.1) rfl rfl rfl (hE.2.1 _ hl) (hC.2.2.2.2.2.1 _ hw.2.1) ⟨hw.2.2.2.1.1, hw.2.2.2.1.2, hw.2.2.2.2⟩ (e_roomR hr hm.2), hi, hC.2.2.2.2.2.1 _ hin⟩
    ⟨e_Pc_blind, fun U hU hW => ⟨by rw [List.map_cons, ea], by rw [hU], hE.warm hW, by rw [hU]; exact hI.1.moved hW.alike, by rw [hU]; exact hI.2.2.2.2.2.moved hW.alike⟩⟩ rfl (by rw [List.length_map]; exact hn) hL.1 ?_ ?_ hdg ⟨h1, h2⟩
  · show _ = _ ++ _
    rw [List.map_append, List.map_reverse, List.map_cons, ea]
  · have := e_cat_le (ad := ad) (st := st)
    show 0 + _ ≤ 8
    omega
end
theorem e_T.mono {Q' : Option e_V → e_G → Prop} (h : e_T sh Y rm pc ls st g cs Q) (hq : ∀ v g', Q v g' → Q' v g') : e_T sh Y rm pc ls st g cs Q' := by
  intro p l e s m args below meth c D ad0 t0 ad H locs lsJ hC hE hI hL hls hst T hT X
  obtain ⟨t, a1, o, b1, b2, ⟨⟨v, g', ad', q1, q2⟩, b4⟩ | ⟨q, ho, E, ce, L, ⟨hE, g', ad', q1, q2⟩, b4⟩⟩ := h p l e s m args below meth c D ad0 t0 ad H locs lsJ hC hE hI hL hls hst T hT X
  · exact ⟨t, a1, o, b1, b2, Or.inl ⟨⟨v, g', ad', hq v g' q1, q2⟩, b4⟩⟩
  · exact ⟨t, a1, o, b1, b2, Or.inr ⟨q, ho, E, ce, L, ⟨hE, g', ad', hq _ g' q1, q2⟩, b4⟩⟩
end CALL
