/-! THE ENGINE: a state of the system as numbers (every slot an Int), values as Int with a tag, and what it is for a frame at a pc to come to an end: e_T. Rows below: one an instruction, over the kit's rows. -/
/-- a value: an int, a long, a reference (its number: -1 is null), or none that is known -/
abbrev e_V : Type := Int ⊕ Int ⊕ Int ⊕ Unit
abbrev e_M : Type := Nat → Nat → Int
/-- the memory, and how many cells are made -/
abbrev e_G : Type := e_M × Nat
def e_rv (ad : Nat → Nat) (x : Int) : Value := if x < 0 then .null else .ref (ad x.toNat)
def e_vv (ad : Nat → Nat) (v : e_V) : Value := match v with
  | .inl x => .int (Int32.ofInt x)
  | .inr (.inl x) => .long (Int64.ofInt x)
  | .inr (.inr (.inl x)) => e_rv ad x
  | .inr (.inr (.inr _)) => .null
/-- the cells that there are: those that were made, and some old ones that nobody writes -/
def e_al (t a : Nat) : Prop := a < t ∨ (1000000 ≤ a ∧ a < 1000063)
def e_i32 (x : Int) : Prop := -2147483648 ≤ x ∧ x < 2147483648
def e_i64 (x : Int) : Prop := -9223372036854775808 ≤ x ∧ x < 9223372036854775808
def e_rok (t : Nat) (x : Int) : Prop := x = -1 ∨ (0 ≤ x ∧ e_al t x.toNat)
def e_ok (t : Nat) (v : e_V) : Prop := match v with
  | .inl x => e_i32 x
  | .inr (.inl x) => e_i64 x
  | .inr (.inr (.inl x)) => e_rok t x
  | .inr (.inr (.inr _)) => True
/-- a slot by its tag -/
def e_sv (ad : Nat → Nat) (t : Nat) (x : Int) : Value := if t = 3 then .long (Int64.ofInt x) else if t = 4 then e_rv ad x else .int (Int32.ofInt x)
def e_so (top t : Nat) (x : Int) : Prop := if t = 3 then e_i64 x else if t = 4 then e_rok top x else if t = 1 then x = 0 ∨ x = 1 else if t = 2 then -128 ≤ x ∧ x < 128 else e_i32 x
/-- what holds of the launch's classes -/
def e_K (D : va_G) (s : State) : Prop := ∀ (c : Nat) (q : vw_C), e_cl[c]? = some q → u_Kn s q.1 q.2.1 q.2.2 (D.1 c) (D.2 c)
theorem e_K.moved {D : va_G} {u U : State} (hvm : u.vm.Alike U.vm) (h : e_K D u) : e_K D U := fun c q hq => u_Kn_moved hvm (h c q hq)
def e_arr (s : State) (kd : Nat) (cell : Cell) : Prop := s.isArrayOf cell (e_aty kd) ∧ (kd < 30 ∨ ∃ (kA : Class) (comp : ClassId), s.vm.classes[cell.cls]? = some kA ∧ kA.kind = .array comp (e_aty kd) ∧ s.vm.findClass (((e_cl[kd - 30]?).map (fun q => q.1)).getD "") = some comp)
theorem e_arr.moved {u U : State} {kd : Nat} {cell : Cell} (hvm : u.vm.Alike U.vm) (h : e_arr u kd cell) : e_arr U kd cell := by
  refine ⟨State.isArrayOf_alike hvm h.1, ?_⟩
  rcases h.2 with h | ⟨kA, comp, h1, h2, h3⟩
  · exact Or.inl h
  · obtain ⟨k', hk', he⟩ := hvm.2.2 _ _ h1
    exact Or.inr ⟨k', comp, hk', by rw [he]; exact h2, by rw [hvm.findClass]; exact h3⟩
theorem e_arr.set {s : State} {kd i : Nat} {cell : Cell} {v : Value} (h : e_arr s kd cell) : e_arr s kd (cell.setSlot i v) := h
/-- a cell of kind kd with n slots that holds f -/
def e_ce (D : va_G) (s : State) (ad : Nat → Nat) (kd n : Nat) (f : Nat → Int) (H : Heap) (q : Nat) : Prop :=
  ∃ cell : Cell, H[q]? = some cell ∧ ((kd < 20 ∧ n = e_num kd ∧ cell.cls = D.1 kd ∧ cell.vm = .none ∧ ∀ k, k < n → cell.slots[D.2 kd k]? = some (e_sv ad (e_tg kd k) (f k))) ∨
    (20 ≤ kd ∧ e_arr s kd cell ∧ cell.vm ≠ .unknown ∧ (n ≤ cell.slots.size ∧ cell.slots.size.toInt32 = Int32.ofNat n) ∧ ∀ k, k < n → cell.slots[k]? = some (e_sv ad (e_tg kd 0) (f k))) ∨
    (kd = 15 ∧ q = D.2 50 n))
theorem e_ce.moved {D : va_G} {u U : State} {ad : Nat → Nat} {kd n : Nat} {f : Nat → Int} {H : Heap} {q : Nat} (hvm : u.vm.Alike U.vm) (h : e_ce D u ad kd n f H q) : e_ce D U ad kd n f H q := by
  obtain ⟨cell, h1, h2⟩ := h
  refine ⟨cell, h1, ?_⟩
  rcases h2 with h2 | ⟨h2, h3, h4⟩ | h2
  · exact Or.inl h2
  · exact Or.inr (Or.inl ⟨h2, h3.moved hvm, h4⟩)
  · exact Or.inr (Or.inr h2)
theorem e_ce.kept {D : va_G} {s : State} {ad : Nat → Nat} {kd n : Nat} {f : Nat → Int} {H H1 : Heap} {q : Nat} (h : e_ce D s ad kd n f H q) (hq : H1[q]? = H[q]?) : e_ce D s ad kd n f H1 q := by
  obtain ⟨cell, h1, h2⟩ := h
  exact ⟨cell, by rw [hq]; exact h1, h2⟩
theorem e_ce.lt {D : va_G} {s : State} {ad : Nat → Nat} {kd n : Nat} {f : Nat → Int} {H : Heap} {q : Nat} (h : e_ce D s ad kd n f H q) : q < H.size := by
  obtain ⟨cell, h1, -⟩ := h
  exact (Array.getElem?_eq_some_iff.mp h1).1
/-- the heap holds the memory; sh says what kind each cell is of, and how many slots it has -/
def e_Rep (sh : Nat → Nat × Nat) (D : va_G) (s : State) (ad : Nat → Nat) (g : e_G) (H : Heap) : Prop :=
  (∀ a, e_al g.2 a → e_ce D s ad (sh a).1 (sh a).2 (g.1 a) H (ad a)) ∧ (∀ a b, e_al g.2 a → b < g.2 → ad a = ad b → a = b) ∧
  (∀ a k, e_al g.2 a → k < (sh a).2 → e_so g.2 (e_tg (sh a).1 (if (sh a).1 < 20 then k else 0)) (g.1 a k))
theorem e_Rep.moved {sh : Nat → Nat × Nat} {D : va_G} {u U : State} {ad : Nat → Nat} {g : e_G} {H : Heap} (hvm : u.vm.Alike U.vm) (h : e_Rep sh D u ad g H) : e_Rep sh D U ad g H := ⟨fun a ha => (h.1 a ha).moved hvm, h.2⟩
theorem e_al.mono {t t' a : Nat} (h : t ≤ t') (ha : e_al t a) : e_al t' a := by
  unfold e_al at *
  omega
theorem e_rv_congr {ad ad' : Nat → Nat} {t : Nat} {x : Int} (h : ∀ a, e_al t a → ad' a = ad a) (hx : e_rok t x) : e_rv ad' x = e_rv ad x := by
  unfold e_rv
  split
  · rfl
  · rename_i hn
    rcases hx with hx | ⟨-, hx⟩
    · exact absurd (show x < 0 by omega) hn
    · rw [h _ hx]
theorem e_vv_congr {ad ad' : Nat → Nat} {t : Nat} {v : e_V} (h : ∀ a, e_al t a → ad' a = ad a) (hv : e_ok t v) : e_vv ad' v = e_vv ad v := by
  rcases v with x | x | x | x
  · rfl
  · rfl
  · exact e_rv_congr h hv
  · rfl
theorem e_rok.mono {t t' : Nat} {x : Int} (h : t ≤ t') (hx : e_rok t x) : e_rok t' x := by
  rcases hx with hx | ⟨h1, h2⟩
  · exact Or.inl hx
  · exact Or.inr ⟨h1, h2.mono h⟩
theorem e_ok.mono {t t' : Nat} {v : e_V} (h : t ≤ t') (hv : e_ok t v) : e_ok t' v := by
  rcases v with x | x | x | x
  · exact hv
  · exact hv
  · exact e_rok.mono h hv
  · trivial
theorem e_so.mono {t t' tg : Nat} {x : Int} (h : t ≤ t') (hx : e_so t tg x) : e_so t' tg x := by
  unfold e_so at *
  split
  · rename_i h1; rw [if_pos h1] at hx; exact hx
  · rename_i h1
    rw [if_neg h1] at hx
    split
    · rename_i h2; rw [if_pos h2] at hx; exact hx.mono h
    · rename_i h2; rw [if_neg h2] at hx; exact hx
theorem e_sv_congr {ad ad' : Nat → Nat} {t tg : Nat} {x : Int} (h : ∀ a, e_al t a → ad' a = ad a) (hx : e_so t tg x) : e_sv ad' tg x = e_sv ad tg x := by
  unfold e_sv
  split
  · rfl
  · rename_i h1
    split
    · rename_i h2
      unfold e_so at hx
      rw [if_neg h1, if_pos h2] at hx
      exact e_rv_congr h hx
    · rfl
/-- locals as a list -/
def e_pr (ad : Nat → Nat) : Nat → List e_V → List (Nat × Value)
  | _, [] => []
  | k, .inr (.inr (.inr _)) :: r => e_pr ad (k + 1) r
  | k, v :: r => (k, e_vv ad v) :: e_pr ad (k + 1) r
theorem e_pr_mem {ad : Nat → Nat} : ∀ (ls : List e_V) (k : Nat) (q : Nat × Value), q ∈ e_pr ad k ls ↔ ∃ (i : Nat) (v : e_V), ls[i]? = some v ∧ v ≠ .inr (.inr (.inr ())) ∧ q = (k + i, e_vv ad v)
  | [], k, q => by simp [e_pr]
  | v :: r, k, q => by
    have ih := e_pr_mem (ad := ad) r (k + 1) q
    have tail : (∃ (i : Nat) (w : e_V), r[i]? = some w ∧ w ≠ .inr (.inr (.inr ())) ∧ q = (k + 1 + i, e_vv ad w)) → ∃ (i : Nat) (w : e_V), (v :: r)[i]? = some w ∧ w ≠ .inr (.inr (.inr ())) ∧ q = (k + i, e_vv ad w) := by
      rintro ⟨i, w, h1, h2, h3⟩
      exact ⟨i + 1, w, by simpa using h1, h2, by rw [h3]; congr 1; omega⟩
    have back : ∀ (i : Nat) (w : e_V), (v :: r)[i]? = some w → w ≠ .inr (.inr (.inr ())) → q = (k + i, e_vv ad w) → (i = 0 ∧ v = w) ∨ ∃ (i : Nat) (w : e_V), r[i]? = some w ∧ w ≠ .inr (.inr (.inr ())) ∧ q = (k + 1 + i, e_vv ad w) := by
      intro i w h1 h2 h3
      cases i with
      | zero => exact Or.inl ⟨rfl, by simpa using h1⟩
      | succ i => exact Or.inr ⟨i, w, by simpa using h1, h2, by rw [h3]; congr 1; omega⟩
    rcases v with x | x | x | x
    all_goals
      simp only [e_pr, List.mem_cons, ih]
      constructor
      · intro h
        first
          | (rcases h with h | h
             · exact ⟨0, _, rfl, (fun h => by cases h), h⟩
             · exact tail h)
          | exact tail h
      · rintro ⟨i, w, h1, h2, h3⟩
        rcases back i w h1 h2 h3 with ⟨rfl, rfl⟩ | h
        · first
            | exact Or.inl h3
            | exact absurd rfl h2
        · first
            | exact Or.inr h
            | exact h
def e_L (ad : Nat → Nat) (nL : Nat) (ls : List e_V) (lsJ : Array Slot) : Prop := lv_has lsJ nL (e_pr ad 0 ls)
theorem e_L.at {ad : Nat → Nat} {nL : Nat} {ls : List e_V} {lsJ : Array Slot} (h : e_L ad nL ls lsJ) {i : Nat} {v : e_V} (hi : ls[i]? = some v) (hv : v ≠ .inr (.inr (.inr ()))) : lsJ[i]? = some (.val (e_vv ad v)) :=
  h.2.2 (i, e_vv ad v) ((e_pr_mem ls 0 _).mpr ⟨i, v, hi, hv, by rw [Nat.zero_add]⟩)
theorem e_L.congr {ad ad' : Nat → Nat} {nL t : Nat} {ls : List e_V} {lsJ : Array Slot} (h : ∀ a, e_al t a → ad' a = ad a) (hv : ∀ v ∈ ls, e_ok t v) (hL : e_L ad nL ls lsJ) : e_L ad' nL ls lsJ := by
  refine ⟨hL.1, hL.2.1, fun q hq => ?_⟩
  obtain ⟨i, v, h1, h2, rfl⟩ := (e_pr_mem ls 0 _).mp hq
  rw [e_vv_congr h (hv v (List.mem_of_getElem? h1)), Nat.zero_add]
  exact hL.at h1 h2
/-- behind a store at i: a long that reaches into i is lost -/
def e_cut (ls : List e_V) (i : Nat) : List e_V := match i with
  | 0 => ls
  | j + 1 => match ls[j]? with
    | some (.inr (.inl _)) => ls.set j (.inr (.inr (.inr ())))
    | _ => ls
def e_s1 (ls : List e_V) (i : Nat) (v : e_V) : List e_V := (e_cut ls i).set i v
def e_s2 (ls : List e_V) (i : Nat) (v : e_V) : List e_V := ((e_cut ls i).set (i + 1) (.inr (.inr (.inr ())))).set i v
theorem e_cat1 {ad : Nat → Nat} {x : Int} : (e_vv ad (.inl x)).category = 1 := rfl
theorem e_cat2 {ad : Nat → Nat} {x : Int} : (e_vv ad (.inr (.inl x))).category = 2 := rfl
theorem e_cat3 {ad : Nat → Nat} {x : Int} : (e_rv ad x).category = 1 := by unfold e_rv; split <;> rfl
theorem e_cat_iff {ad : Nat → Nat} {v : e_V} (h : (e_vv ad v).category = 2) : ∃ x, v = .inr (.inl x) := by
  rcases v with x | x | x | x
  · rw [e_cat1] at h; cases h
  · exact ⟨x, rfl⟩
  · rw [show e_vv ad (.inr (.inr (.inl x))) = e_rv ad x from rfl, e_cat3] at h; cases h
  · cases h
theorem e_cut_get {ls : List e_V} {i j : Nat} {v : e_V} (h : (e_cut ls i)[j]? = some v) (hv : v ≠ .inr (.inr (.inr ()))) : ls[j]? = some v ∧ (j + 1 = i → ∀ x, v ≠ .inr (.inl x)) := by
  cases i with
  | zero => exact ⟨h, fun e => by omega⟩
  | succ k =>
    simp only [e_cut] at h
    split at h
    · rename_i x hx
      rw [List.getElem?_set] at h
      split at h
      · split at h
        · cases h; exact absurd rfl hv
        · cases h
      · exact ⟨h, fun e => by omega⟩
    · rename_i hx
      refine ⟨h, fun e x hx2 => ?_⟩
      have : j = k := by omega
      subst this
      rw [hx2] at h
      exact hx x h
theorem e_L.store1 {ad : Nat → Nat} {nL i : Nat} {ls : List e_V} {lsJ : Array Slot} {v : e_V} (hl : lv_has lsJ nL ((i, e_vv ad v) :: (e_pr ad 0 ls).filter (fun q => !(q.1 == i) && !(q.1 + 1 == i && q.2.category == 2)))) : e_L ad nL (e_s1 ls i v) lsJ := by
  refine ⟨hl.1, hl.2.1, fun q hq => ?_⟩
  obtain ⟨j, w, h1, h2, rfl⟩ := (e_pr_mem _ 0 _).mp hq
  rw [Nat.zero_add]
  rw [e_s1, List.getElem?_set] at h1
  by_cases hij : i = j
  · rw [if_pos hij] at h1
    split at h1
    · cases h1; subst hij; exact hl.2.2 _ List.mem_cons_self
    · cases h1
  · rw [if_neg hij] at h1
    obtain ⟨h3, h4⟩ := e_cut_get h1 h2
    refine hl.2.2 _ (List.mem_cons_of_mem _ (List.mem_filter.mpr ⟨(e_pr_mem ls 0 _).mpr ⟨j, w, h3, h2, by rw [Nat.zero_add]⟩, ?_⟩))
    have n1 : ¬ j = i := fun e => hij e.symm
    simp only [Bool.and_eq_true, Bool.not_eq_true', beq_eq_false_iff_ne, ne_eq, Bool.and_eq_false_iff]
    refine ⟨n1, ?_⟩
    by_cases h5 : j + 1 = i
    · right
      intro hc
      obtain ⟨x, rfl⟩ := e_cat_iff hc
      exact h4 h5 x rfl
    · exact Or.inl h5
theorem e_L.store2 {ad : Nat → Nat} {nL i : Nat} {ls : List e_V} {lsJ : Array Slot} {v : e_V} (hl : lv_has lsJ nL ((i, e_vv ad v) :: (e_pr ad 0 ls).filter (fun q => !(q.1 == i) && (!(q.1 == i + 1) && !(q.1 + 1 == i && q.2.category == 2))))) : e_L ad nL (e_s2 ls i v) lsJ := by
  refine ⟨hl.1, hl.2.1, fun q hq => ?_⟩
  obtain ⟨j, w, h1, h2, rfl⟩ := (e_pr_mem _ 0 _).mp hq
  rw [Nat.zero_add]
  rw [e_s2, List.getElem?_set] at h1
  by_cases hij : i = j
  · rw [if_pos hij] at h1
    split at h1
    · cases h1; subst hij; exact hl.2.2 _ List.mem_cons_self
    · cases h1
  · rw [if_neg hij, List.getElem?_set] at h1
    by_cases hij2 : i + 1 = j
    · rw [if_pos hij2] at h1
      split at h1
      · cases h1; exact absurd rfl h2
      · cases h1
    · rw [if_neg hij2] at h1
      obtain ⟨h3, h4⟩ := e_cut_get h1 h2
      refine hl.2.2 _ (List.mem_cons_of_mem _ (List.mem_filter.mpr ⟨(e_pr_mem ls 0 _).mpr ⟨j, w, h3, h2, by rw [Nat.zero_add]⟩, ?_⟩))
      have n1 : ¬ j = i := fun e => hij e.symm
      have n2 : ¬ j = i + 1 := fun e => hij2 e.symm
      simp only [Bool.and_eq_true, Bool.not_eq_true', beq_eq_false_iff_ne, ne_eq, Bool.and_eq_false_iff]
      refine ⟨n1, n2, ?_⟩
      by_cases h5 : j + 1 = i
      · right
        intro hc
        obtain ⟨x, rfl⟩ := e_cat_iff hc
        exact h4 h5 x rfl
      · exact Or.inl h5
