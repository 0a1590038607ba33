/-! a frame that comes to an end: e_T -/
def e_gd : List Cond := lw_tbl.filter goodWord
def e_isN : Cond → Bool
  | .methodLinkNest .. => true
  | .fieldLinkNest .. => true
  | _ => false
def e_nest : List Cond := lw_tbl.filter e_isN
def e_ws (Y : e_Y) : List Cond := .code Y.1 Y.2.1 Y.2.2.1 Y.2.2.2 :: e_gd
def e_strl : List (String × Nat × String × Nat) := [("LandHouse$Reader", 55, "person firm guard death close sell split join border charge pay assign rank free auction ", 0), ("LandHouse$Reader", 61, "serve waive lease caution option take end ", 1), ("LandHouse$Reader", 63, "annul correct on to born by from for into before of over at until way water light ", 2), ("LandHouse$Reader", 65, "known count sum most list show trace lots persons charges serves leases cautions options where or and not ", 3), ("LandHouse$Reader", 67, "owner near named has adult area corners owners debts price age rent left points ", 4), ("LandHouse$Asker", 302, "lot", 5), ("LandHouse$Asker", 303, "firm", 6), ("LandHouse$Asker", 305, "person", 7), ("LandHouse$Asker", 307, "charge", 8), ("LandHouse$Asker", 309, "serve", 9), ("LandHouse$Asker", 311, "lease", 10), ("LandHouse$Asker", 313, "caution", 11), ("LandHouse$Asker", 315, "option", 12), ("LandHouse$Asker", 280, "ended", 13), ("LandHouse$Asker", 320, "at", 14), ("LandHouse$Asker", 321, " (", 15), ("LandHouse$Asker", 369, " way", 16), ("LandHouse$Asker", 371, " water", 17), ("LandHouse$Asker", 373, " light", 18), ("LandHouse$Asker", 350, " of", 19), ("LandHouse$Asker", 352, " over", 20), ("LandHouse$Asker", 358, "on", 21), ("LandHouse$Asker", 362, "of", 22), ("LandHouse$Asker", 368, "over", 23), ("LandHouse", 189, "no such byte", 24), ("LandHouse", 207, "no such thing", 25), ("LandHouse", 231, "no such corner", 26), ("LandHouse", 242, "no such owner", 27), ("LandHouseModel", 255, "on annul correct to person born firm by guard death close sell from for split into join border charge pay assign rank before free auction serve of over at waive lease until caution option take end way water light known count sum most list show trace lots persons charges serves leases cautions options where or and not owner near named has adult area corners owners debts price age rent left points", 28)]
/-- how long the i-th String constant is; its bytes -/
def e_slen : List Nat := [89, 42, 82, 106, 80, 3, 4, 6, 6, 5, 5, 7, 6, 5, 2, 2, 4, 6, 6, 3, 5, 2, 2, 4, 12, 13, 14, 13, 398]
def e_sby : List (List Nat) := [[112, 101, 114, 115, 111, 110, 32, 102, 105, 114, 109, 32, 103, 117, 97, 114, 100, 32, 100, 101, 97, 116, 104, 32, 99, 108, 111, 115, 101, 32, 115, 101, 108, 108, 32, 115, 112, 108, 105, 116, 32, 106, 111, 105, 110, 32, 98, 111, 114, 100, 101, 114, 32, 99, 104, 97, 114, 103, 101, 32, 112, 97, 121, 32, 97, 115, 115, 105, 103, 110, 32, 114, 97, 110, 107, 32, 102, 114, 101, 101, 32, 97, 117, 99, 116, 105, 111, 110, 32], [115, 101, 114, 118, 101, 32, 119, 97, 105, 118, 101, 32, 108, 101, 97, 115, 101, 32, 99, 97, 117, 116, 105, 111, 110, 32, 111, 112, 116, 105, 111, 110, 32, 116, 97, 107, 101, 32, 101, 110, 100, 32], [97, 110, 110, 117, 108, 32, 99, 111, 114, 114, 101, 99, 116, 32, 111, 110, 32, 116, 111, 32, 98, 111, 114, 110, 32, 98, 121, 32, 102, 114, 111, 109, 32, 102, 111, 114, 32, 105, 110, 116, 111, 32, 98, 101, 102, 111, 114, 101, 32, 111, 102, 32, 111, 118, 101, 114, 32, 97, 116, 32, 117, 110, 116, 105, 108, 32, 119, 97, 121, 32, 119, 97, 116, 101, 114, 32, 108, 105, 103, 104, 116, 32], [107, 110, 111, 119, 110, 32, 99, 111, 117, 110, 116, 32, 115, 117, 109, 32, 109, 111, 115, 116, 32, 108, 105, 115, 116, 32, 115, 104, 111, 119, 32, 116, 114, 97, 99, 101, 32, 108, 111, 116, 115, 32, 112, 101, 114, 115, 111, 110, 115, 32, 99, 104, 97, 114, 103, 101, 115, 32, 115, 101, 114, 118, 101, 115, 32, 108, 101, 97, 115, 101, 115, 32, 99, 97, 117, 116, 105, 111, 110, 115, 32, 111, 112, 116, 105, 111, 110, 115, 32, 119, 104, 101, 114, 101, 32, 111, 114, 32, 97, 110, 100, 32, 110, 111, 116, 32], [111, 119, 110, 101, 114, 32, 110, 101, 97, 114, 32, 110, 97, 109, 101, 100, 32, 104, 97, 115, 32, 97, 100, 117, 108, 116, 32, 97, 114, 101, 97, 32, 99, 111, 114, 110, 101, 114, 115, 32, 111, 119, 110, 101, 114, 115, 32, 100, 101, 98, 116, 115, 32, 112, 114, 105, 99, 101, 32, 97, 103, 101, 32, 114, 101, 110, 116, 32, 108, 101, 102, 116, 32, 112, 111, 105, 110, 116, 115, 32], [108, 111, 116], [102, 105, 114, 109], [112, 101, 114, 115, 111, 110], [99, 104, 97, 114, 103, 101], [115, 101, 114, 118, 101], [108, 101, 97, 115, 101], [99, 97, 117, 116, 105, 111, 110], [111, 112, 116, 105, 111, 110], [101, 110, 100, 101, 100], [97, 116], [32, 40], [32, 119, 97, 121], [32, 119, 97, 116, 101, 114], [32, 108, 105, 103, 104, 116], [32, 111, 102], [32, 111, 118, 101, 114], [111, 110], [111, 102], [111, 118, 101, 114], [110, 111, 32, 115, 117, 99, 104, 32, 98, 121, 116, 101], [110, 111, 32, 115, 117, 99, 104, 32, 116, 104, 105, 110, 103], [110, 111, 32, 115, 117, 99, 104, 32, 99, 111, 114, 110, 101, 114], [110, 111, 32, 115, 117, 99, 104, 32, 111, 119, 110, 101, 114], [111, 110, 32, 97, 110, 110, 117, 108, 32, 99, 111, 114, 114, 101, 99, 116, 32, 116, 111, 32, 112, 101, 114, 115, 111, 110, 32, 98, 111, 114, 110, 32, 102, 105, 114, 109, 32, 98, 121, 32, 103, 117, 97, 114, 100, 32, 100, 101, 97, 116, 104, 32, 99, 108, 111, 115, 101, 32, 115, 101, 108, 108, 32, 102, 114, 111, 109, 32, 102, 111, 114, 32, 115, 112, 108, 105, 116, 32, 105, 110, 116, 111, 32, 106, 111, 105, 110, 32, 98, 111, 114, 100, 101, 114, 32, 99, 104, 97, 114, 103, 101, 32, 112, 97, 121, 32, 97, 115, 115, 105, 103, 110, 32, 114, 97, 110, 107, 32, 98, 101, 102, 111, 114, 101, 32, 102, 114, 101, 101, 32, 97, 117, 99, 116, 105, 111, 110, 32, 115, 101, 114, 118, 101, 32, 111, 102, 32, 111, 118, 101, 114, 32, 97, 116, 32, 119, 97, 105, 118, 101, 32, 108, 101, 97, 115, 101, 32, 117, 110, 116, 105, 108, 32, 99, 97, 117, 116, 105, 111, 110, 32, 111, 112, 116, 105, 111, 110, 32, 116, 97, 107, 101, 32, 101, 110, 100, 32, 119, 97, 121, 32, 119, 97, 116, 101, 114, 32, 108, 105, 103, 104, 116, 32, 107, 110, 111, 119, 110, 32, 99, 111, 117, 110, 116, 32, 115, 117, 109, 32, 109, 111, 115, 116, 32, 108, 105, 115, 116, 32, 115, 104, 111, 119, 32, 116, 114, 97, 99, 101, 32, 108, 111, 116, 115, 32, 112, 101, 114, 115, 111, 110, 115, 32, 99, 104, 97, 114, 103, 101, 115, 32, 115, 101, 114, 118, 101, 115, 32, 108, 101, 97, 115, 101, 115, 32, 99, 97, 117, 116, 105, 111, 110, 115, 32, 111, 112, 116, 105, 111, 110, 115, 32, 119, 104, 101, 114, 101, 32, 111, 114, 32, 97, 110, 100, 32, 110, 111, 116, 32, 111, 119, 110, 101, 114, 32, 110, 101, 97, 114, 32, 110, 97, 109, 101, 100, 32, 104, 97, 115, 32, 97, 100, 117, 108, 116, 32, 97, 114, 101, 97, 32, 99, 111, 114, 110, 101, 114, 115, 32, 111, 119, 110, 101, 114, 115, 32, 100, 101, 98, 116, 115, 32, 112, 114, 105, 99, 101, 32, 97, 103, 101, 32, 114, 101, 110, 116, 32, 108, 101, 102, 116, 32, 112, 111, 105, 110, 116, 115]]
def e_Env (D : va_G) (s : State) : Prop := e_K D s ∧ (∀ w ∈ e_nest, va_Nw w s) ∧ va_AO "LandHouse$Deed" s ∧ va_AO "LandHouse$Lot" s ∧ va_AO "LandHouse$Thing" s ∧ ∀ q ∈ e_strl, vk_R q.1 q.2.1 q.2.2.1 (D.2 50 (q.2.2.2 + 1)) s
theorem e_nest_warm {s U : State} (hW : s.WarmedH U.vm) {w : Cond} (hn : e_isN w = true) (h : va_Nw w s) : va_Nw w U := by
  cases w <;> first | exact va_Nw.warmM hW h | exact va_Nw.warmF hW h | (exact absurd hn (by simp [e_isN]))
theorem e_Env.warm {D : va_G} {s U : State} (hW : s.WarmedH U.vm) (h : e_Env D s) : e_Env D U :=
  ⟨h.1.moved hW.alike, fun w hw => e_nest_warm hW (List.mem_filter.mp hw).2 (h.2.1 w hw), h.2.2.1.moved hW.alike, h.2.2.2.1.moved hW.alike, h.2.2.2.2.1.moved hW.alike, fun q hq => (h.2.2.2.2.2 q hq).warm hW⟩
/-- the static rows: their classes and names; the k-th lies at 1000001 + k (1000000: the script) -/
def e_stat : List (String × String) := [("LandHouse", "MOST"), ("LandHouse", "FIRST"), ("LandHouse", "FACTS"), ("LandHouseModel", "TOLD")]
/-- what a new exception reads of the JDK -/
def e_Ox (A : Nat → Prop) (s : State) (H : Heap) : Prop := vx_Zq Bundle.tN "UNASSIGNED_STACK" Bundle.steD A s H ∧ vx_Zq Bundle.tN "SUPPRESSED_SENTINEL" Bundle.listD A s H
theorem e_Ox.moved {A : Nat → Prop} {u U : State} {H : Heap} (hvm : u.vm.Alike U.vm) (h : e_Ox A u H) : e_Ox A U H := ⟨vx_Zq.moved hvm h.1, vx_Zq.moved hvm h.2⟩
theorem e_Ox.kept {A : Nat → Prop} {U : State} {H H1 : Heap} (h : e_Ox A U H) (hq : ∀ a : Nat, a < H.size → ¬ A a → H1[a]? = H[a]?) : e_Ox A U H1 := ⟨h.1.kept hq, h.2.kept hq⟩
theorem e_Ox.narrow {A B : Nat → Prop} {U : State} {H : Heap} (h : e_Ox A U H) (hAB : ∀ q, B q → A q) : e_Ox B U H := ⟨h.1.narrow hAB, h.2.narrow hAB⟩
/-- the i-th String constant lies at 1000005 + i, its bytes at 1000034 + i -/
def e_Os (ad : Nat → Nat) (A : Nat → Prop) (s : State) (H : Heap) : Prop := va_Z "java/lang/String" "COMPACT_STRINGS" "Z" (.int 1) A s H ∧ (∃ v, va_Z "jdk/internal/util/Preconditions" "SIOOBE_FORMATTER" "Ljava/util/function/BiFunction;" v A s H ∧ (v = .null ∨ ∃ r, v = .ref r)) ∧
  ∀ i, i < 29 → va_O "java/lang/String" (ad (1000005 + i)) A s H ∧ va_OF "java/lang/String" "coder" "B" (.int 0) (ad (1000005 + i)) A s H ∧ va_OF "java/lang/String" "value" "[B" (.ref (ad (1000034 + i))) (ad (1000005 + i)) A s H
def e_Old (ad : Nat → Nat) (A : Nat → Prop) (s : State) (H : Heap) : Prop := ((∀ (k : Nat) (q : String × String), e_stat[k]? = some q → va_Z q.1 q.2 "[I" (.ref (ad (1000001 + k))) A s H) ∧ e_Ox A s H) ∧ e_Os ad A s H
theorem e_Old.moved {ad : Nat → Nat} {A : Nat → Prop} {u U : State} {H : Heap} (hvm : u.vm.Alike U.vm) (h : e_Old ad A u H) : e_Old ad A U H :=
  ⟨⟨fun k q hq => (h.1.1 k q hq).moved hvm, h.1.2.moved hvm⟩, h.2.1.moved hvm, ⟨h.2.2.1.choose, h.2.2.1.choose_spec.1.moved hvm, h.2.2.1.choose_spec.2⟩, fun i hi => ⟨va_O.moved hvm (h.2.2.2 i hi).1, va_OF.moved hvm (h.2.2.2 i hi).2.1, va_OF.moved hvm (h.2.2.2 i hi).2.2⟩⟩
theorem e_Old.kept {ad : Nat → Nat} {A : Nat → Prop} {U : State} {H H1 : Heap} (h : e_Old ad A U H) (hq : ∀ a : Nat, a < H.size → ¬ A a → H1[a]? = H[a]?) : e_Old ad A U H1 :=
  ⟨⟨fun k q hk => (h.1.1 k q hk).kept hq, h.1.2.kept hq⟩, h.2.1.kept hq, ⟨h.2.2.1.choose, h.2.2.1.choose_spec.1.kept hq, h.2.2.1.choose_spec.2⟩, fun i hi => ⟨(h.2.2.2 i hi).1.kept hq, (h.2.2.2 i hi).2.1.kept hq, (h.2.2.2 i hi).2.2.kept hq⟩⟩
theorem e_Old.narrow {ad : Nat → Nat} {A B : Nat → Prop} {U : State} {H : Heap} (h : e_Old ad A U H) (hAB : ∀ q, B q → A q) : e_Old ad B U H :=
  ⟨⟨fun k q hk => (h.1.1 k q hk).narrow hAB, h.1.2.narrow hAB⟩, h.2.1.narrow hAB, ⟨h.2.2.1.choose, h.2.2.1.choose_spec.1.narrow hAB, h.2.2.1.choose_spec.2⟩, fun i hi => ⟨(h.2.2.2 i hi).1.narrow hAB, (h.2.2.2 i hi).2.1.narrow hAB, (h.2.2.2 i hi).2.2.narrow hAB⟩⟩
theorem e_Zw {C n d : String} {v : Value} {A B : Nat → Prop} {U : State} {H : Heap} (h : va_Z C n d v A U H) (hAB : ∀ q, B q → A q ∨ H.size ≤ q) : va_Z C n d v B U H := by
  obtain ⟨cf, kf, fi, f, a, cell, h1, h2, h3, h4, h5, h6, h7, h8⟩ := h
  refine ⟨cf, kf, fi, f, a, cell, h1, h2, h3, h4, h5, h6, h7, fun z => ?_⟩
  rcases hAB a z with z | z
  · exact h8 z
  · have := (Array.getElem?_eq_some_iff.mp h5).1
    omega
theorem e_OFw {o n d : String} {v : Value} {t : Nat} {A B : Nat → Prop} {U : State} {H : Heap} (h : va_OF o n d v t A U H) (hAB : ∀ q, B q → A q ∨ H.size ≤ q) : va_OF o n d v t B U H := by
  obtain ⟨cf, k, i, f, cell, h1, h2, h3, h4, h5, h6⟩ := h
  refine ⟨cf, k, i, f, cell, h1, h2, h3, h4, h5, fun z => ?_⟩
  rcases hAB t z with z | z
  · exact h6 z
  · have := (Array.getElem?_eq_some_iff.mp h3).1
    omega
theorem e_Ow {o : String} {t : Nat} {A B : Nat → Prop} {U : State} {H : Heap} (h : va_O o t A U H) (hAB : ∀ q, B q → A q ∨ H.size ≤ q) : va_O o t B U H := by
  obtain ⟨cell, h1, h2, h3, h4⟩ := h
  refine ⟨cell, h1, h2, h3, fun z => ?_⟩
  rcases hAB t z with z | z
  · exact h4 z
  · have := (Array.getElem?_eq_some_iff.mp h1).1
    omega
theorem e_Zqw {C n d : String} {A B : Nat → Prop} {U : State} {H : Heap} (h : vx_Zq C n d A U H) (hAB : ∀ q, B q → A q ∨ H.size ≤ q) : vx_Zq C n d B U H := by
  refine ⟨?_, ?_⟩
  · rcases h.1 with h | ⟨t, h⟩
    · exact Or.inl (e_Zw h hAB)
    · exact Or.inr ⟨t, e_Zw h hAB⟩
  · obtain ⟨c, k, i, f, a, cell, h1, h2, h3, h4, h5, h6, h7, h8, h9, h10⟩ := h.2
    refine ⟨c, k, i, f, a, cell, h1, h2, h3, h4, h5, h6, h7, h8, h9, fun z => ?_⟩
    rcases hAB a z with z | z
    · exact h10 z
    · have := (Array.getElem?_eq_some_iff.mp h5).1
      omega
theorem e_Ox.wide {A B : Nat → Prop} {U : State} {H : Heap} (h : e_Ox A U H) (hAB : ∀ q, B q → A q ∨ H.size ≤ q) : e_Ox B U H := ⟨e_Zqw h.1 hAB, e_Zqw h.2 hAB⟩
/-- a wider part, by cells that are new -/
theorem e_Old.wide {ad : Nat → Nat} {A B : Nat → Prop} {U : State} {H : Heap} (h : e_Old ad A U H) (hAB : ∀ q, B q → A q ∨ H.size ≤ q) : e_Old ad B U H :=
  ⟨⟨fun k q hk => e_Zw (h.1.1 k q hk) hAB, h.1.2.wide hAB⟩, e_Zw h.2.1 hAB, ⟨h.2.2.1.choose, e_Zw h.2.2.1.choose_spec.1 hAB, h.2.2.1.choose_spec.2⟩, fun i hi => ⟨e_Ow (h.2.2.2 i hi).1 hAB, e_OFw (h.2.2.2 i hi).2.1 hAB, e_OFw (h.2.2.2 i hi).2.2 hAB⟩⟩
theorem e_Old.congr {ad ad' : Nat → Nat} {A : Nat → Prop} {U : State} {H : Heap} {t : Nat} (h : e_Old ad A U H) (hc : ∀ a, e_al t a → ad' a = ad a) : e_Old ad' A U H := by
  refine ⟨⟨fun k q hk => ?_, h.1.2⟩, h.2.1, h.2.2.1, fun i hi => ?_⟩
  · have hlt : k < 4 := (List.getElem?_eq_some_iff.mp hk).1
    rw [hc (1000001 + k) (Or.inr ⟨by omega, by omega⟩)]
    exact h.1.1 k q hk
  · rw [hc (1000005 + i) (Or.inr ⟨by omega, by omega⟩), hc (1000034 + i) (Or.inr ⟨by omega, by omega⟩)]
    exact h.2.2.2 i hi
def e_W (ad : Nat → Nat) (t : Nat) : Nat → Prop := fun q => ∃ a, a < t ∧ q = ad a
def e_A (ad : Nat → Nat) (t sz : Nat) : Nat → Prop := fun q => e_W ad t q ∨ sz ≤ q
/-- the table of handlers: none, or as the tables say -/
def e_Tb (c : Code) (Y : e_Y) : Prop := (Cond.code Y.1 Y.2.1 Y.2.2.1 Y.2.2.2 ∈ e_gd → ∀ x ∈ c.exceptionTable.toList, False) ∧ ∀ hh, Cond.codeWith Y.1 Y.2.1 Y.2.2.1 Y.2.2.2 hh ∈ e_gd → c.exceptionTable.toList = tableOf hh
def e_Cx (p : Program) (l : Launch) (s : State) (m : MethodId) (args : Array Value) (meth : Method) (c : Code) (Y : e_Y) : Prop :=
  p.tables.exec = Jvm.exec ∧ c.code = Y.2.1 ∧ c.maxLocals = Y.2.2.1 ∧ meth.sig.returnType = Y.2.2.2 ∧ s.vm.findClass Y.1.cls = some m.cls ∧ (∀ w ∈ e_gd, w.before args s = true) ∧ meth.locks = false ∧ meth.name = Y.1.name ∧ l.stackTraces = false ∧ e_Tb c Y
def e_I (sh : Nat → Nat × Nat) (D : va_G) (s : State) (ad0 : Nat → Nat) (t0 : Nat) (ad : Nat → Nat) (g : e_G) (H : Heap) (locs : List Loc) : Prop :=
  e_Rep sh D s ad g H ∧ (∀ a, e_al t0 a → ad a = ad0 a) ∧ t0 ≤ g.2 ∧ (∀ a, t0 ≤ a → a < g.2 → s.heap.size ≤ ad a) ∧ va_S (e_A ad0 t0 s.heap.size) s.heap H locs ∧ e_Old ad (e_W ad g.2) s H
def e_Qc (sh : Nat → Nat × Nat) (D : va_G) (ad0 : Nat → Nat) (t0 : Nat) (Q : Option e_V → e_G → Prop) : Array Value → State → Outcome → State → Prop := fun _ st o t =>
  ∃ (v : Option e_V) (g' : e_G) (ad' : Nat → Nat), Q v g' ∧ o = .returned (v.map (e_vv ad')) ∧ (∀ w, v = some w → e_ok g'.2 w ∧ w ≠ .inr (.inr (.inr ()))) ∧ e_Rep sh D t ad' g' t.heap ∧ (∀ a, e_al t0 a → ad' a = ad0 a) ∧ t0 ≤ g'.2 ∧
    (∀ a, t0 ≤ a → a < g'.2 → st.heap.size ≤ ad' a) ∧ va_F (e_A ad0 t0 st.heap.size) st t ∧ e_Old ad' (e_W ad' g'.2) t t.heap
/-- a frame that throws: what Q says of the word that is none -/
def e_Xc (sh : Nat → Nat × Nat) (D : va_G) (ad0 : Nat → Nat) (t0 : Nat) (Q : Option e_V → e_G → Prop) : String → State → State → Prop := fun E st t =>
  E = "java/util/NoSuchElementException" ∧ ∃ (g' : e_G) (ad' : Nat → Nat), Q (some (.inr (.inr (.inr ())))) g' ∧ e_Rep sh D t ad' g' t.heap ∧ (∀ a, e_al t0 a → ad' a = ad0 a) ∧ t0 ≤ g'.2 ∧
    (∀ a, t0 ≤ a → a < g'.2 → st.heap.size ≤ ad' a) ∧ va_F (e_A ad0 t0 st.heap.size) st t ∧ e_Old ad' (e_W ad' g'.2) t t.heap
/-- how a frame ends: it returns, or it throws -/
def e_Fi (below : List Frame) (sh : Nat → Nat × Nat) (D : va_G) (ad0 : Nat → Nat) (t0 : Nat) (Q : Option e_V → e_G → Prop) (args : Array Value) (s : State) (rm : Nat × Nat × Nat) : State → Prop :=
  vx_MQ below (e_Qc sh D ad0 t0 Q) (e_Xc sh D ad0 t0 Q) args s rm.2.1 rm.2.2 (e_A ad0 t0 s.heap.size)
def e_rm (rm : Nat × Nat × Nat) : Room := { frames := rm.1, cells := rm.2.1, slots := rm.2.2, locals := 128 * rm.1 }
/-- from pc on, with these locals, this stack, this memory and so much made, the frame of Y comes to its end, and Q holds there -/
def e_T (sh : Nat → Nat × Nat) (Y : e_Y) (rm : Nat × Nat × Nat) (pc : Nat) (ls st : List e_V) (g : e_G) (cs : Nat × Nat) (Q : Option e_V → e_G → Prop) : Prop :=
  ∀ (p : Program) (l : Launch) (e : Env) (s : State) (m : MethodId) (args : Array Value) (below : List Frame) (meth : Method) (c : Code) (D : va_G) (ad0 : Nat → Nat) (t0 : Nat) (ad : Nat → Nat) (H : Heap) (locs : List Loc) (lsJ : Array Slot),
    e_Cx p l s m args meth c Y → e_Env D s → e_I sh D s ad0 t0 ad g H locs → e_L ad Y.2.2.1 ls lsJ → (∀ v ∈ ls, e_ok g.2 v) → (∀ v ∈ st, e_ok g.2 v ∧ v ≠ .inr (.inr (.inr ()))) →
      W p l e (e_rm rm) s m args below meth c H locs cs.1 cs.2 (e_Fi below sh D ad0 t0 Q args s rm) (F0 m pc lsJ (st.map (e_vv ad)))
section ROWS
variable {sh : Nat → Nat × Nat} {Y : e_Y} {rm : Nat × Nat × Nat} {pc : Nat} {ls st : List e_V} {g : e_G} {cs : Nat × Nat} {Q : Option e_V → e_G → Prop} {x y : Int}
/-- an instruction on the stack alone -/
theorem e_go {pc' : Nat} {st' : List e_V} (hok : (∀ v ∈ st, e_ok g.2 v ∧ v ≠ .inr (.inr (.inr ()))) → ∀ v ∈ st', e_ok g.2 v ∧ v ≠ .inr (.inr (.inr ())))
    (step : ∀ {p : Program} {l : Launch} {e : Env} {R : Room} {s : State} {m : MethodId} {args : Array Value} {below : List Frame} {meth : Method} {c : Code} {H : Heap} {locs : List Loc} {cells slots : Nat} {Q : State → Prop} {lsJ : Array Slot} {ad : Nat → Nat},
      p.tables.exec = Jvm.exec → c.code = Y.2.1 → (∀ v ∈ st, e_ok g.2 v ∧ v ≠ .inr (.inr (.inr ()))) → W p l e R s m args below meth c H locs cells slots Q (F0 m pc' lsJ (st'.map (e_vv ad))) → W p l e R s m args below meth c H locs cells slots Q (F0 m pc lsJ (st.map (e_vv ad))))
    (k : e_T sh Y rm pc' ls st' g cs Q) : e_T sh Y rm pc ls st g cs Q := by
  intro p l e s m args below meth c D ad0 t0 ad H locs lsJ hC hE hI hL hls hst
  exact step hC.1 hC.2.1 hst (k p l e s m args below meth c D ad0 t0 ad H locs lsJ hC hE hI hL hls (hok hst))
theorem e_ok_cons {v : e_V} {t : Nat} (hv : e_ok t v) (hu : v ≠ .inr (.inr (.inr ()))) (h : ∀ w ∈ st, e_ok t w ∧ w ≠ .inr (.inr (.inr ()))) : ∀ w ∈ v :: st, e_ok t w ∧ w ≠ .inr (.inr (.inr ())) := List.forall_mem_cons.mpr ⟨⟨hv, hu⟩, h⟩
theorem e_iconst {n : Int} (hdg : decode Y.2.1 pc = .ok (.iconst n, 1)) (hn : e_i32 n) (k : e_T sh Y rm (pc + 1) ls (.inl n :: st) g cs Q) : e_T sh Y rm pc ls st g cs Q :=
  e_go (e_ok_cons (v := .inl n) hn (fun h => by cases h)) (fun hx hb _ k => lv_iconst hx hb hdg rfl k) k
theorem e_bipush {n : Int} (hdg : decode Y.2.1 pc = .ok (.bipush n, 2)) (hn : -128 ≤ n ∧ n < 128) (k : e_T sh Y rm (pc + 2) ls (.inl n :: st) g cs Q) : e_T sh Y rm pc ls st g cs Q :=
  e_go (e_ok_cons (v := .inl n) (show e_i32 n from ⟨by omega, by omega⟩) (fun h => by cases h)) (fun hx hb _ k => lv_bipush hx hb hdg (by
    rw [show Int8.ofInt n = (Int32.ofInt n).toInt8 from (Int32.toInt8_ofInt).symm, e_i2b, e_w8_id hn]) k) k
theorem e_sipush {n : Int} (hdg : decode Y.2.1 pc = .ok (.sipush n, 3)) (hn : -32768 ≤ n ∧ n < 32768) (k : e_T sh Y rm (pc + 3) ls (.inl n :: st) g cs Q) : e_T sh Y rm pc ls st g cs Q :=
  e_go (e_ok_cons (v := .inl n) (show e_i32 n from ⟨by omega, by omega⟩) (fun h => by cases h)) (fun hx hb _ k => lv_sipush hx hb hdg (by
    apply Int32.toInt_inj.mp
    rw [Int16.toInt_toInt32, Int16.toInt_ofInt_of_le (by omega) (by omega), e_t32 ⟨by omega, by omega⟩]) k) k
theorem e_lconst {n : Fin 2} {z : Int} (hdg : decode Y.2.1 pc = .ok (.lconst n, 1)) (hz : ((n : Nat) : Int) = z) (k : e_T sh Y rm (pc + 1) ls (.inr (.inl z) :: st) g cs Q) : e_T sh Y rm pc ls st g cs Q := by
  subst hz
  exact e_go (e_ok_cons (v := .inr (.inl (((n : Nat) : Int)))) (show e_i64 ((n : Nat) : Int) from ⟨by omega, by omega⟩) (fun h => by cases h)) (fun hx hb _ k => lv_lconst hx hb hdg (by show _ = Int64.ofInt _; rw [Int64.ofInt_eq_ofNat]) k) k
/-- a load -/
theorem e_load {pc' i : Nat} {v : e_V} (hv : v ≠ .inr (.inr (.inr ()))) (hi : ls[i]? = some v)
    (step : ∀ {p : Program} {l : Launch} {e : Env} {R : Room} {s : State} {m : MethodId} {args : Array Value} {below : List Frame} {meth : Method} {c : Code} {H : Heap} {locs : List Loc} {cells slots : Nat} {Q : State → Prop} {lsJ : Array Slot} {ad : Nat → Nat},
      p.tables.exec = Jvm.exec → c.code = Y.2.1 → lsJ[i]? = some (.val (e_vv ad v)) → W p l e R s m args below meth c H locs cells slots Q (F0 m pc' lsJ (e_vv ad v :: st.map (e_vv ad))) → W p l e R s m args below meth c H locs cells slots Q (F0 m pc lsJ (st.map (e_vv ad))))
    (k : e_T sh Y rm pc' ls (v :: st) g cs Q) : e_T sh Y rm pc ls st g cs Q := by
  intro p l e s m args below meth c D ad0 t0 ad H locs lsJ hC hE hI hL hls hst
  exact step hC.1 hC.2.1 (hL.at hi hv) (k p l e s m args below meth c D ad0 t0 ad H locs lsJ hC hE hI hL hls (e_ok_cons (hls v (List.mem_of_getElem? hi)) hv hst))
theorem e_iload {i : Nat} (hdg : decode Y.2.1 pc = .ok (.iload i, 2)) (hi : ls[i]? = some (.inl x)) (k : e_T sh Y rm (pc + 2) ls (.inl x :: st) g cs Q) : e_T sh Y rm pc ls st g cs Q :=
  e_load (fun h => by cases h) hi (fun hx hb hl k => lv_iload hx hb hdg hl k) k
theorem e_iload_n {n : Fin 4} (hdg : decode Y.2.1 pc = .ok (.iload_n n, 1)) (hi : ls[(n : Nat)]? = some (.inl x)) (k : e_T sh Y rm (pc + 1) ls (.inl x :: st) g cs Q) : e_T sh Y rm pc ls st g cs Q :=
  e_load (fun h => by cases h) hi (fun hx hb hl k => lv_iload_n hx hb hdg rfl hl k) k
theorem e_lload {i : Nat} (hdg : decode Y.2.1 pc = .ok (.lload i, 2)) (hi : ls[i]? = some (.inr (.inl x))) (k : e_T sh Y rm (pc + 2) ls (.inr (.inl x) :: st) g cs Q) : e_T sh Y rm pc ls st g cs Q :=
  e_load (fun h => by cases h) hi (fun hx hb hl k => lv_lload hx hb hdg hl k) k
theorem e_lload_n {n : Fin 4} (hdg : decode Y.2.1 pc = .ok (.lload_n n, 1)) (hi : ls[(n : Nat)]? = some (.inr (.inl x))) (k : e_T sh Y rm (pc + 1) ls (.inr (.inl x) :: st) g cs Q) : e_T sh Y rm pc ls st g cs Q :=
  e_load (fun h => by cases h) hi (fun hx hb hl k => lv_lload_n hx hb hdg rfl hl k) k
theorem e_rv_pos {ad : Nat → Nat} (h : 0 ≤ x) : e_rv ad x = .ref (ad x.toNat) := by unfold e_rv; rw [if_neg (by omega)]
theorem e_aload {i : Nat} (hdg : decode Y.2.1 pc = .ok (.aload i, 2)) (hi : ls[i]? = some (.inr (.inr (.inl x)))) (h0 : 0 ≤ x) (k : e_T sh Y rm (pc + 2) ls (.inr (.inr (.inl x)) :: st) g cs Q) : e_T sh Y rm pc ls st g cs Q :=
  e_load (fun h => by cases h) hi (fun {p l e R s m args below meth c H locs cells slots Q lsJ ad} hx hb hl k => by
    have e1 : e_vv ad (.inr (.inr (.inl x))) = .ref (ad x.toNat) := e_rv_pos h0
    rw [e1] at hl k
    exact lv_aload hx hb hdg hl k) k
theorem e_aload_n {n : Fin 4} (hdg : decode Y.2.1 pc = .ok (.aload_n n, 1)) (hi : ls[(n : Nat)]? = some (.inr (.inr (.inl x)))) (h0 : 0 ≤ x) (k : e_T sh Y rm (pc + 1) ls (.inr (.inr (.inl x)) :: st) g cs Q) : e_T sh Y rm pc ls st g cs Q :=
  e_load (fun h => by cases h) hi (fun {p l e R s m args below meth c H locs cells slots Q lsJ ad} hx hb hl k => by
    have e1 : e_vv ad (.inr (.inr (.inl x))) = .ref (ad x.toNat) := e_rv_pos h0
    rw [e1] at hl k
    exact lv_aload_n hx hb hdg rfl hl k) k
theorem e_ok_set {t i : Nat} {v : e_V} {l : List e_V} (hv : e_ok t v) (h : ∀ w ∈ l, e_ok t w) : ∀ w ∈ l.set i v, e_ok t w := by
  intro w hw
  rcases List.mem_or_eq_of_mem_set hw with h1 | h1
  · exact h w h1
  · rw [h1]; exact hv
theorem e_ok_cut {t i : Nat} {l : List e_V} (h : ∀ w ∈ l, e_ok t w) : ∀ w ∈ e_cut l i, e_ok t w := by
  unfold e_cut
  split
  · exact h
  · split
    · exact e_ok_set trivial h
    · exact h
/-- a store -/
theorem e_istore {i : Nat} (hdg : decode Y.2.1 pc = .ok (.istore i, 2)) (hi : i < Y.2.2.1) (k : e_T sh Y rm (pc + 2) (e_s1 ls i (.inl x)) st g cs Q) : e_T sh Y rm pc ls (.inl x :: st) g cs Q := by
  intro p l e s m args below meth c D ad0 t0 ad H locs lsJ hC hE hI hL hls hst
  obtain ⟨h1, h2⟩ := List.forall_mem_cons.mp hst
  exact lv_istore hC.1 hC.2.1 hdg hL hi rfl (fun lsJ' h' => k p l e s m args below meth c D ad0 t0 ad H locs lsJ' hC hE hI (e_L.store1 (v := .inl x) h') (e_ok_set h1.1 (e_ok_cut hls)) h2)
theorem e_istore_n {n : Fin 4} (hdg : decode Y.2.1 pc = .ok (.istore_n n, 1)) (hi : (n : Nat) < Y.2.2.1) (k : e_T sh Y rm (pc + 1) (e_s1 ls n (.inl x)) st g cs Q) : e_T sh Y rm pc ls (.inl x :: st) g cs Q := by
  intro p l e s m args below meth c D ad0 t0 ad H locs lsJ hC hE hI hL hls hst
  obtain ⟨h1, h2⟩ := List.forall_mem_cons.mp hst
  exact lv_istore_n hC.1 hC.2.1 hdg rfl hL hi rfl (fun lsJ' h' => k p l e s m args below meth c D ad0 t0 ad H locs lsJ' hC hE hI (e_L.store1 (v := .inl x) h') (e_ok_set h1.1 (e_ok_cut hls)) h2)
theorem e_lstore {i : Nat} (hdg : decode Y.2.1 pc = .ok (.lstore i, 2)) (hi : i + 1 < Y.2.2.1) (k : e_T sh Y rm (pc + 2) (e_s2 ls i (.inr (.inl x))) st g cs Q) : e_T sh Y rm pc ls (.inr (.inl x) :: st) g cs Q := by
  intro p l e s m args below meth c D ad0 t0 ad H locs lsJ hC hE hI hL hls hst
  obtain ⟨h1, h2⟩ := List.forall_mem_cons.mp hst
  exact lv_lstore hC.1 hC.2.1 hdg hL hi rfl (fun lsJ' h' => k p l e s m args below meth c D ad0 t0 ad H locs lsJ' hC hE hI (e_L.store2 (v := .inr (.inl x)) h') (e_ok_set h1.1 (e_ok_set trivial (e_ok_cut hls))) h2)
theorem e_lstore_n {n : Fin 4} (hdg : decode Y.2.1 pc = .ok (.lstore_n n, 1)) (hi : (n : Nat) + 1 < Y.2.2.1) (k : e_T sh Y rm (pc + 1) (e_s2 ls n (.inr (.inl x))) st g cs Q) : e_T sh Y rm pc ls (.inr (.inl x) :: st) g cs Q := by
  intro p l e s m args below meth c D ad0 t0 ad H locs lsJ hC hE hI hL hls hst
  obtain ⟨h1, h2⟩ := List.forall_mem_cons.mp hst
  exact lv_lstore_n hC.1 hC.2.1 hdg rfl hL hi rfl (fun lsJ' h' => k p l e s m args below meth c D ad0 t0 ad H locs lsJ' hC hE hI (e_L.store2 (v := .inr (.inl x)) h') (e_ok_set h1.1 (e_ok_set trivial (e_ok_cut hls))) h2)
theorem e_astore {i : Nat} (hdg : decode Y.2.1 pc = .ok (.astore i, 2)) (hi : i < Y.2.2.1) (h0 : 0 ≤ x) (k : e_T sh Y rm (pc + 2) (e_s1 ls i (.inr (.inr (.inl x)))) st g cs Q) : e_T sh Y rm pc ls (.inr (.inr (.inl x)) :: st) g cs Q := by
  intro p l e s m args below meth c D ad0 t0 ad H locs lsJ hC hE hI hL hls hst
  obtain ⟨h1, h2⟩ := List.forall_mem_cons.mp hst
  have e1 : e_vv ad (.inr (.inr (.inl x))) = .ref (ad x.toNat) := e_rv_pos h0
  rw [List.map_cons, e1]
  exact lv_astore hC.1 hC.2.1 hdg hL hi rfl (fun lsJ' h' => k p l e s m args below meth c D ad0 t0 ad H locs lsJ' hC hE hI (e_L.store1 (v := .inr (.inr (.inl x))) (by rw [e1]; exact h')) (e_ok_set h1.1 (e_ok_cut hls)) h2)
theorem e_astore_n {n : Fin 4} (hdg : decode Y.2.1 pc = .ok (.astore_n n, 1)) (hi : (n : Nat) < Y.2.2.1) (h0 : 0 ≤ x) (k : e_T sh Y rm (pc + 1) (e_s1 ls n (.inr (.inr (.inl x)))) st g cs Q) : e_T sh Y rm pc ls (.inr (.inr (.inl x)) :: st) g cs Q := by
  intro p l e s m args below meth c D ad0 t0 ad H locs lsJ hC hE hI hL hls hst
  obtain ⟨h1, h2⟩ := List.forall_mem_cons.mp hst
  have e1 : e_vv ad (.inr (.inr (.inl x))) = .ref (ad x.toNat) := e_rv_pos h0
  rw [List.map_cons, e1]
  exact lv_astore_n hC.1 hC.2.1 hdg rfl hL hi rfl (fun lsJ' h' => k p l e s m args below meth c D ad0 t0 ad H locs lsJ' hC hE hI (e_L.store1 (v := .inr (.inr (.inl x))) (by rw [e1]; exact h')) (e_ok_set h1.1 (e_ok_cut hls)) h2)
theorem e_iinc {i : Nat} {n : Int} (hdg : decode Y.2.1 pc = .ok (.iinc i n, 3)) (hi : ls[i]? = some (.inl x)) (hn : e_i32 n) (hl : ls.length ≤ Y.2.2.1) (k : e_T sh Y rm (pc + 3) (e_s1 ls i (.inl (e_w32 (x + n)))) st g cs Q) : e_T sh Y rm pc ls st g cs Q := by
  intro p l e s m args below meth c D ad0 t0 ad H locs lsJ hC hE hI hL hls hst
  have hx : e_i32 x := hls _ (List.mem_of_getElem? hi)
  have hm : (i, Value.int (Int32.ofInt x)) ∈ e_pr ad 0 ls := (e_pr_mem ls 0 _).mpr ⟨i, .inl x, hi, (fun h => by cases h), by rw [Nat.zero_add]; rfl⟩
  obtain ⟨j, hj⟩ := List.mem_iff_getElem?.mp hm
  have hlt : i < Y.2.2.1 := Nat.lt_of_lt_of_le (List.getElem?_eq_some_iff.mp hi).1 hl
  exact lv_iinc hC.1 hC.2.1 hdg hL hj (v := Int32.ofInt (e_w32 (x + n))) (e_add32 hx hn) hlt rfl (fun lsJ' h' => k p l e s m args below meth c D ad0 t0 ad H locs lsJ' hC hE hI (e_L.store1 (v := .inl (e_w32 (x + n))) h') (e_ok_set (e_w32_rng _) (e_ok_cut hls)) hst)
end ROWS
