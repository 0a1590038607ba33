/-! out of the skeleton; the law's walk out of the engine's -/
noncomputable section
def R_law : String := "LandHouseLaw"
def lw_P (b : Addr) (xs : List Int32) (args : Array Value) (s : State) : Prop := args = #[.ref b] ∧ s.IntsAt b xs ∧ xs.length ≤ 3072 ∧ (Jvm.Cond.and given_1 narrow_1).before args s = true
def lw_Q (_ : Array Value) (s : State) (o : Outcome) (t : State) : Prop := o = .returned (some (.int 1)) ∧ Framed s o t [] 601024 7293034
def lw_Z (below : List Frame) (a : Array Value) (s : State) : State → Prop := fun t => ∃ o, t.status = .running ∧ Ended t below o ∧ lw_Q a s o t
/-- the law's own end, with 1 on the stack, nothing written that was there before, its room as the claim has it -/
theorem lw_ret {p : Program} {l : Launch} {e : Env} {s : State} {m : MethodId} {below : List Frame} {meth : Method} {c : Code} {b : Nat} (hx : p.tables.exec = Jvm.exec) (hb : c.code = code) (hr : meth.sig.returnType = ret) (hlocks : meth.locks = false) {pc : Nat} {H : Heap} {ls : Array Slot} (hdg : decode code pc = .ok (.ireturn, 1)) : W p l e room_1 s m #[Value.ref b] below meth c H [] 601024 7293034 (lw_Z below #[Value.ref b] s) (F0 m pc ls [.int 1]) := by
  intro T hT X
  obtain ⟨fs, hret, hrun, hended, hW, hframe⟩ := X.leave (v := some (.int 1)) (hlocks := hlocks) (fun h => by rw [hr] at h; cases h)
  have hmeth' : T.vm.method? m = some meth := X.method'
  refine ⟨T.setFrames fs, ?_, .returned (some (.int 1)), hrun, hended, rfl, ⟨_, rfl⟩, hW, hframe⟩
  jvm_step X.here [X.here.top, hx, hb, hdg, hmeth', hr, ret, narrow_b1]
  (try refine ⟨rfl, ?_⟩); (try refine ⟨rfl, ?_⟩)
  first | (intro acts; rw [hret _ acts rfl rfl rfl]) | rw [hret _ _ rfl rfl rfl]
  exact Steps.refl _
/-- what holds at the law's entry: the machine, the code, the tables' words (any of lw_tbl by 'hts w (by decide +kernel)'), the script of L ints xs at the cell b, what the Statement gives of the start (any of its parts by flat_of_before) -/
def lw_At (p : Program) (s : State) (m : MethodId) (meth : Method) (c : Code) (b L : Nat) (xs : Nat → Int32) : Prop :=
  p.tables.exec = Jvm.exec ∧ c.code = code ∧ meth.sig.returnType = ret ∧ c.maxLocals = 8 ∧ s.vm.findClass R_law = some m.cls ∧ (∀ w ∈ lw_tbl, w.before #[Value.ref b] s = true) ∧ va_X b L xs s s.heap ∧ b < s.heap.size ∧ meth.locks = false ∧ (Jvm.Cond.and given_1 narrow_1).before #[Value.ref b] s = true
theorem ao_Deed : Cond.arrayOver (.object "LandHouse$Deed") ∈ lw_tbl := u1 (List.mem_of_getElem? (i := 33) (by decide +kernel))
theorem ao_Lot : Cond.arrayOver (.object "LandHouse$Lot") ∈ lw_tbl := u2 (List.mem_of_getElem? (i := 66) (by decide +kernel))
theorem ao_Thing : Cond.arrayOver (.object "LandHouse$Thing") ∈ lw_tbl := u2 (List.mem_of_getElem? (i := 68) (by decide +kernel))
theorem law_nc : ∀ hh, Cond.codeWith YL_law.1 YL_law.2.1 YL_law.2.2.1 YL_law.2.2.2 hh ∉ e_gd := by
  intro hh hw
  have h1 : lw_tbl.all (fun w => match w with | .codeWith y _ _ _ _ => decide (y.name ≠ "law") | _ => true) = true := by decide +kernel
  have := List.all_eq_true.mp h1 _ (List.mem_filter.mp hw).1
  have h2 : decide (YL_law.1.name ≠ "law") = true := this
  exact absurd h2 (by decide)
theorem st_Wroom {p : Program} {l : Launch} {e : Env} {R R' : Room} {s : State} {m : MethodId} {args : Array Value} {below : List Frame} {meth : Method} {c : Code} {H : Heap} {locs : List Loc} {cells slots : Nat} {Q : State → Prop} {g : JFrame} (hf : R'.frames ≤ R.frames) (hl : R'.locals ≤ R.locals) (hc : R'.cells ≤ R.cells) (hs : R'.slots ≤ R.slots) (h : W p l e R' s m args below meth c H locs cells slots Q g) : W p l e R s m args below meth c H locs cells slots Q g := by
  intro T hT X
  refine h T hT ⟨X.admits, X.cas, X.clock, X.frames, ?_, X.hears, X.method, X.code, X.here, X.tail, X.warmed, X.limits, X.bytes, X.same⟩
  have h := X.room
  simp only [State.hasRoom, Bool.and_eq_true, decide_eq_true_eq] at h ⊢
  obtain ⟨⟨⟨⟨h1, h2, h3, h4, h5, h6⟩, h7⟩, h8⟩, h9⟩ := h
  exact ⟨⟨⟨⟨by omega, by omega, by omega, by omega, by omega, h6⟩, by omega⟩, by omega⟩, h9⟩
/-- the law's walk, from a walk of the engine's -/
theorem st_go {p : Program} {e : Env} {s : State} {m : MethodId} {below : List Frame} {meth : Method} {c : Code} {l : Launch} {b L : Nat} {xs : Nat → Int32} (hL : L ≤ 3072) (C0 : lw_At p s m meth c b L xs) (hst : l.stackTraces = false) (hnm : meth.name = "law") (hex : ∀ x ∈ c.exceptionTable.toList, False)
    (hT : e_T (e_sh L) YL_law (656, 601024, 7293034) 0 (e_loc 8 [.inr (.inr (.inl 1000000))]) [] (st_m xs, 0) (0, 0) (fun v _ => v = some (.inl 1))) : W p l e room_1 s m #[Value.ref b] below meth c s.heap [] 0 0 (lw_Z below #[Value.ref b] s) (entryFrame m ([Value.ref b] : List Value).toArray 8) := by
  obtain ⟨hx, hb, hr, hml, hown, hts, hX, hbl, hlocks, hgv⟩ := C0
  have hs := flat_of_before _ hgv
  have h0 : ∀ i : Nat, ∃ z : Nat × Nat, i < 29 → ∃ q, e_strl[i]? = some q ∧ (Term.string q.1 q.2.1).eval #[Value.ref b] s none [] s = some (.ref z.1) ∧ va_O "java/lang/String" z.1 (st_A s) s s.heap ∧ va_OF "java/lang/String" "coder" "B" (.int 0) z.1 (st_A s) s s.heap ∧ va_OF "java/lang/String" "value" "[B" (.ref z.2) z.1 (st_A s) s s.heap ∧ va_T .byte z.2 (e_slen.getD i 0) (fun j => .int ((st_by i).getD j 0)) (st_A s) s s.heap := by
    intro i
    by_cases hi : i < 29
    · obtain ⟨q, ad, av, h⟩ := st_str hs hi
      exact ⟨(ad, av), fun _ => ⟨q, h⟩⟩
    · exact ⟨(0, 0), fun h => absurd h hi⟩
  obtain ⟨f, hf⟩ := Classical.axiomOfChoice h0
  have t0 : ∀ k : Nat, ∃ t : Nat, ∀ q, e_stat[k]? = some q → va_Z q.1 q.2 "[I" (.ref t) (st_A s) s s.heap ∧ va_T .int t (st_vs.getD k []).length (fun j => .int (Int32.ofInt ((st_vs.getD k []).getD j 0))) (st_A s) s s.heap := by
    intro k
    cases hk : e_stat[k]? with
    | none => exact ⟨0, fun q h => by cases h⟩
    | some q =>
      obtain ⟨t, h⟩ := st_tabs hs hts hk
      exact ⟨t, fun q' h' => by obtain rfl := Option.some.inj h'; exact h⟩
  obtain ⟨aT, haT⟩ := Classical.axiomOfChoice t0
  obtain ⟨dC, dI, hK⟩ := st_K (s := s) hts
  obtain ⟨D, hD⟩ : ∃ D : va_G, D = (dC, fun c k => if c = 50 then (f (k - 1)).1 else dI c k) := ⟨_, rfl⟩
  have hD50 : ∀ i, D.2 50 (i + 1) = (f i).1 := fun i => by rw [hD]; rfl
  have hDK : e_K D s := by
    intro c q hq
    have hc : c < 20 := e_cl_lt hq
    have e1 : D.2 c = dI c := by
      rw [hD]
      funext k
      exact if_neg (by omega)
    rw [e1, show D.1 c = dC c by rw [hD]]
    exact hK c q hq
  obtain ⟨ad, had⟩ : ∃ ad, ad = st_ad b aT (fun i => (f i).1) (fun i => (f i).2) := ⟨_, rfl⟩
  have hE : e_Env D s := by
    refine ⟨hDK, fun w hw => ?_, hts _ ao_Deed, hts _ ao_Lot, hts _ ao_Thing, fun q hq => ?_⟩
    · have h9 := hts w (List.mem_filter.mp hw).1
      have hn := (List.mem_filter.mp hw).2
      cases w <;> first | exact h9 | exact absurd hn (by simp [e_isN])
    · have hq4 : ∃ i, i < 29 ∧ e_strl[i]? = some q ∧ q.2.2.2 = i := by
        obtain ⟨i, hi⟩ := List.getElem?_of_mem hq
        have hlt : i < 29 := (List.getElem?_eq_some_iff.mp hi).1
        obtain ⟨q', h1, h2⟩ := st_idx i hlt
        obtain rfl := Option.some.inj (hi.symm.trans h1)
        exact ⟨i, hlt, hi, h2⟩
      obtain ⟨i, hlt, hi, h2⟩ := hq4
      obtain ⟨q', h1, h3, -⟩ := hf i hlt
      obtain rfl := Option.some.inj (hi.symm.trans h1)
      rw [h2, hD50]
      exact vk_R.of (hts _ (st_sr q hq)) h3
  have hR : e_Rep (e_sh L) D s ad (st_m xs, 0) s.heap := by
    rw [had]
    exact st_Rep hL hX (fun k q hq => (haT k q hq).2) (fun i hi => by obtain ⟨q, -, -, h, -⟩ := hf i hi; exact h) (fun i hi => by obtain ⟨q, -, -, -, -, -, h⟩ := hf i hi; exact h) (fun i _ => hD50 i)
  have hnA : ∀ q, e_W ad 0 q → st_A s q := fun q ⟨a, h, _⟩ => absurd h (Nat.not_lt_zero a)
  have hO : e_Old ad (e_W ad 0) s s.heap := by
    refine e_Old.narrow (A := st_A s) ⟨⟨fun k q hq => ?_, st_Ox hs hts⟩, st_Os1 hs hts, st_Os2 hs hts, fun i hi => ?_⟩ hnA
    · have hk : k < 4 := (List.getElem?_eq_some_iff.mp hq).1
      rw [had, st_adT hk]
      exact (haT k q hq).1
    · rw [had, st_adK hi, st_adV hi]
      obtain ⟨q, -, -, h1, h2, h3, -⟩ := hf i hi
      exact ⟨h1, h2, h3⟩
  have hI : e_I (e_sh L) D s ad 0 ad (st_m xs, 0) s.heap [] := ⟨hR, fun _ _ => rfl, Nat.le_refl _, fun a _ h2 => absurd h2 (Nat.not_lt_zero a), va_S.rf, hO⟩
  have hC : e_Cx p l s m #[Value.ref b] meth c YL_law := ⟨hx, hb, hml, hr, hown, fun w hw => hts w (List.mem_filter.mp hw).1, hlocks, hnm, hst, fun _ => hex, fun hh hw => absurd hw (law_nc hh)⟩
  have hl := lv_entry ([.ref b]) (n := 8) (Nat.le_of_ble_eq_true rfl)
  rw [lg_entry_eq]
  generalize (lg_sl ([.ref b]) ++ List.replicate (8 - (lg_sl ([.ref b])).length) Slot.unset).toArray = lsJ at hl ⊢
  have had0 : ad 1000000 = b := by rw [had]; rfl
  have hLs : e_L ad 8 (e_loc 8 [.inr (.inr (.inl 1000000))]) lsJ := by
    have e1 : e_pr ad 0 (e_loc 8 [.inr (.inr (.inl 1000000))]) = [(0, .ref b)] := by
      show [(0, e_rv ad 1000000)] = _
      rw [e_rv_pos (by decide)]
      show [(0, Value.ref (ad 1000000))] = _
      rw [had0]
    show lv_has lsJ 8 (e_pr ad 0 _)
    rw [e1]
    exact hl
  have hok : ∀ v ∈ e_loc 8 [.inr (.inr (.inl 1000000))], e_ok 0 v := e_ok_loc fun v hv => by
    obtain rfl := List.mem_singleton.mp hv
    exact Or.inr ⟨by decide, Or.inr ⟨by decide, by decide⟩⟩
  have key := hT p l e s m #[Value.ref b] below meth c D ad 0 ad s.heap [] lsJ hC hE hI hLs hok (fun v hv => by cases hv)
  refine st_Wroom (R' := e_rm (656, 601024, 7293034)) (by decide) (by decide) (by decide) (by decide) ?_
  intro T hTh X
  obtain ⟨t, a1, o, b1, b2, ⟨⟨v, g', ad', rfl, ho, -⟩, L9, ⟨hret, hW9, hsm⟩, hfree⟩ | ⟨q, ho, E, ce, L9, ⟨hEq, g', ad', hQ, -⟩, -⟩⟩ := key T hTh X
  · refine ⟨t, a1, o, b1, b2, ho, hret, hW9, hsm.weaken (fun y hy hlt => ?_) (Nat.le_refl _) (Nat.le_refl _)⟩
    rcases hfree y hy with ⟨a, h, -⟩ | h
    · exact absurd h (Nat.not_lt_zero a)
    · exact absurd hlt (Nat.not_lt.mpr h)
  · cases hQ
end
