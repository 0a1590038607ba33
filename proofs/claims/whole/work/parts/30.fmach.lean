/-! THE MACHINE IN WORDS: what a stretch of a method wants of the memory that it begins with, as a proposition (f_run). The memory is a function; a reference carries its kind and its length; what a call or a place wants is told by words of their own. -/
/-- an int, a long, a reference (kind, length, cell), or none that is known -/
abbrev f_V : Type := Int ⊕ Int ⊕ (Nat × Nat × Nat) ⊕ Unit
def f_ev (v : f_V) : e_V := match v with
  | .inl x => .inl x
  | .inr (.inl x) => .inr (.inl x)
  | .inr (.inr (.inl q)) => .inr (.inr (.inl (q.2.2 : Int)))
  | .inr (.inr (.inr _)) => .inr (.inr (.inr ()))
/-- a number of the rows that nobody writes -/
def f_kt (a k : Nat) : Int := x_get 0 (x_get (99, 0, 0, []) x_kst (a - 1000001)).2.2.2 k
/-- a reference's kind: from 100 on a row, or a text, that nobody writes -/
def f_rf (sh : Nat → Nat × Nat) (t : Nat) (q : Nat × Nat × Nat) : Prop :=
  (q.1 < 100 ∧ sh q.2.2 = (q.1, q.2.1) ∧ q.2.2 < t) ∨ (q.1 = 120 ∧ ∃ j, j < 4 ∧ q.2.2 = 1000001 + j ∧ sh (1000001 + j) = (20, q.2.1)) ∨ (q.1 = 115 ∧ ∃ i, i < 29 ∧ q.2.2 = 1000005 + i ∧ sh (1000034 + i) = (22, q.2.1))
def f_tv (sh : Nat → Nat × Nat) (t : Nat) (v : f_V) : Prop := match v with
  | .inr (.inr (.inl q)) => f_rf sh t q
  | _ => True
def f_tvs (sh : Nat → Nat × Nat) (t : Nat) (l : List f_V) : Prop := ∀ v ∈ l, f_tv sh t v
/-- a field that is a reference: read (0), or its cell lies behind the object's own (1), or it is always the same (2) -/
def f_fc (sh : Nat → Nat × Nat) (t : Nat) (M : e_M) (a k : Nat) (d : Nat × Nat × Nat × Nat) : Prop := match d.1 with
  | 0 => 0 ≤ M a k ∧ sh (M a k).toNat = (d.2.1, d.2.2.1) ∧ (M a k).toNat < t
  | 1 => M a k = ((a + d.2.2.2 : Nat) : Int) ∧ sh (a + d.2.2.2) = (d.2.1, d.2.2.1) ∧ a + d.2.2.2 < t
  | _ => M a k = ((d.2.2.2 : Nat) : Int) ∧ sh d.2.2.2 = (d.2.1, d.2.2.1) ∧ d.2.2.2 < t
def f_ftl : List (List (Nat × Nat × Nat × Nat)) := [[(0, 10, 15, 0), (0, 2, 19, 0), (0, 0, 0, 0), (1, 20, 8, 1), (1, 20, 8, 2), (1, 5, 12, 3), (1, 4, 9, 20)],
  [(0, 0, 0, 0), (1, 22, 2000, 1), (0, 0, 0, 0), (0, 10, 15, 0), (2, 6, 11, 22), (1, 20, 640, 2), (1, 23, 640, 3)],
  [(0, 0, 0, 0), (0, 0, 0, 0), (0, 0, 0, 0), (0, 0, 0, 0), (0, 0, 0, 0), (1, 23, 8, 1), (1, 20, 8, 2), (0, 0, 0, 0), (0, 0, 0, 0), (0, 0, 0, 0), (0, 0, 0, 0), (0, 0, 0, 0), (0, 0, 0, 0), (1, 23, 6, 3), (1, 23, 6, 4), (0, 0, 0, 0), (1, 20, 12, 5), (1, 20, 12, 6), (0, 0, 0, 0)],
  [(1, 20, 40, 1), (1, 20, 40, 2), (0, 0, 0, 0)],
  [(0, 0, 0, 0), (0, 0, 0, 0), (0, 0, 0, 0), (1, 3, 3, 1), (1, 8, 2, 4), (1, 20, 14, 6), (1, 23, 14, 7), (1, 23, 14, 8), (0, 0, 0, 0)],
  [(1, 3, 3, 1), (1, 3, 3, 4), (1, 3, 3, 7), (1, 20, 160, 10), (1, 20, 160, 11), (0, 0, 0, 0), (1, 20, 160, 12), (1, 20, 160, 13), (1, 20, 160, 14), (1, 20, 160, 15), (1, 21, 160, 16), (0, 0, 0, 0)],
  [(2, 7, 12, 10), (0, 0, 0, 0), (0, 0, 0, 0), (0, 0, 0, 0), (0, 0, 0, 0), (0, 0, 0, 0), (1, 20, 640, 1), (1, 23, 640, 2), (0, 0, 0, 0), (0, 0, 0, 0), (0, 0, 0, 0)],
  [(1, 23, 71, 1), (1, 20, 641, 2), (1, 20, 641, 3), (1, 23, 641, 4), (0, 0, 0, 0), (0, 0, 0, 0), (0, 0, 0, 0), (0, 0, 0, 0), (0, 0, 0, 0), (0, 2, 19, 0), (0, 0, 0, 0), (0, 0, 0, 0)],
  [(1, 20, 8, 1), (0, 0, 0, 0)],
  [(0, 0, 0, 0), (0, 0, 0, 0), (0, 0, 0, 0), (0, 0, 0, 0), (0, 0, 0, 0), (0, 0, 0, 0), (0, 0, 0, 0), (0, 0, 0, 0), (0, 0, 0, 0), (0, 8, 2, 0), (0, 8, 2, 0), (0, 2, 19, 0), (0, 0, 0, 0), (0, 0, 0, 0)],
  [(1, 34, 80, 1), (1, 39, 290, 2), (1, 4, 9, 3), (1, 9, 14, 12), (1, 20, 8, 24), (1, 20, 150, 25), (1, 20, 150, 26), (1, 20, 150, 27), (1, 32, 150, 28), (0, 0, 0, 0), (0, 0, 0, 0), (0, 0, 0, 0), (0, 0, 0, 0), (0, 0, 0, 0), (0, 0, 0, 0)],
  [(1, 22, 640, 1), (0, 0, 0, 0), (0, 0, 0, 0), (0, 0, 0, 0), (0, 0, 0, 0), (0, 0, 0, 0), (1, 32, 150, 2), (0, 0, 0, 0), (0, 2, 19, 0), (1, 7, 12, 10), (1, 6, 11, 22), (1, 10, 15, 25), (1, 10, 15, 2224), (1, 0, 7, 4423), (1, 1, 7, 4452)],
  [(1, 20, 640, 1), (1, 20, 26, 2), (1, 23, 71, 3), (1, 22, 640, 4), (0, 0, 0, 0), (0, 0, 0, 0), (0, 0, 0, 0), (0, 0, 0, 0), (0, 0, 0, 0), (0, 0, 0, 0), (0, 0, 0, 0), (0, 0, 0, 0), (0, 0, 0, 0), (0, 0, 0, 0), (1, 20, 152, 5), (1, 20, 152, 6), (1, 20, 152, 7), (1, 20, 152, 8), (1, 20, 152, 9), (1, 20, 152, 10), (1, 23, 1520, 11), (1, 20, 152, 12), (1, 20, 152, 13), (1, 20, 152, 14), (1, 20, 152, 15), (1, 20, 912, 16), (1, 20, 912, 17), (1, 20, 152, 18), (1, 20, 1824, 19), (1, 20, 1824, 20), (1, 20, 152, 21), (1, 20, 152, 22), (1, 21, 152, 23), (0, 0, 0, 0), (0, 0, 0, 0), (0, 0, 0, 0), (0, 0, 0, 0), (0, 0, 0, 0), (0, 0, 0, 0), (0, 0, 0, 0), (1, 20, 4800, 24), (1, 20, 4800, 25), (0, 0, 0, 0), (0, 0, 0, 0), (0, 0, 0, 0), (0, 0, 0, 0), (0, 0, 0, 0), (0, 0, 0, 0), (0, 0, 0, 0), (1, 20, 7, 26), (1, 20, 7, 27), (1, 23, 560, 28), (1, 21, 560, 29), (1, 20, 560, 30), (1, 20, 560, 31), (1, 20, 560, 32), (1, 20, 560, 33), (1, 20, 560, 34), (1, 20, 560, 35), (1, 20, 560, 36), (1, 20, 4480, 37), (1, 20, 560, 38), (1, 20, 4480, 39), (1, 20, 80, 40), (1, 20, 80, 41), (1, 20, 640, 42), (1, 20, 80, 43), (1, 20, 640, 44), (1, 23, 640, 45), (1, 23, 640, 46), (1, 20, 80, 47), (1, 20, 960, 48), (1, 20, 960, 49), (0, 0, 0, 0), (1, 20, 60, 50), (1, 20, 60, 51), (1, 20, 60, 52), (1, 20, 60, 53), (1, 20, 60, 54), (1, 20, 360, 55), (1, 23, 60, 56), (1, 23, 60, 57), (1, 23, 360, 58), (1, 23, 360, 59), (1, 21, 60, 60), (0, 0, 0, 0), (0, 0, 0, 0), (0, 0, 0, 0), (1, 20, 16, 61), (1, 23, 16, 62), (1, 23, 16, 63), (1, 20, 10, 64), (1, 21, 152, 65), (1, 21, 152, 66), (1, 20, 152, 67), (1, 20, 152, 68), (1, 20, 152, 69), (1, 20, 152, 70), (0, 0, 0, 0), (0, 0, 0, 0), (0, 0, 0, 0), (0, 0, 0, 0), (0, 0, 0, 0), (0, 0, 0, 0), (0, 0, 0, 0), (1, 20, 1300, 71), (1, 20, 1300, 72), (1, 20, 1300, 73), (1, 23, 1300, 74), (0, 0, 0, 0), (0, 0, 0, 0), (0, 0, 0, 0), (0, 0, 0, 0), (0, 0, 0, 0), (0, 0, 0, 0), (0, 0, 0, 0), (0, 0, 0, 0), (1, 23, 64, 75), (0, 0, 0, 0), (1, 22, 2000, 76), (0, 0, 0, 0), (0, 0, 0, 0), (0, 0, 0, 0)]]
def f_ft (kd k : Nat) : Nat × Nat × Nat × Nat := x_get (0, 0, 0, 0) (x_get [] f_ftl kd) k
/-- what holds of the rows that nobody writes -/
def f_Ks (sh : Nat → Nat × Nat) (M : e_M) : Prop := ∀ j, j < 62 → sh (1000001 + j) = ((x_get (99, 0, 0, []) x_kst j).1, (x_get (99, 0, 0, []) x_kst j).2.1) ∧ ∀ k, k < (x_get (99, 0, 0, []) x_kst j).2.1 → M (1000001 + j) k = x_get (x_get (99, 0, 0, []) x_kst j).2.2.1 (x_get (99, 0, 0, []) x_kst j).2.2.2 k
/-- every reference is one, of its kind -/
def f_Ty (sh : Nat → Nat × Nat) (M : e_M) (t : Nat) : Prop := t ≤ 1000000 ∧
  (∀ a, a < t → (∀ k, (sh a).1 < 13 → k < e_num (sh a).1 → e_tg (sh a).1 k = 4 → f_fc sh t M a k (f_ft (sh a).1 k)) ∧ ∀ k, 30 ≤ (sh a).1 → (sh a).1 < 43 → k < (sh a).2 → 0 ≤ M a k ∧ sh (M a k).toNat = ((sh a).1 - 30, e_num ((sh a).1 - 30)) ∧ (M a k).toNat < t) ∧ f_Ks sh M
abbrev f_Kt : Type := Nat → Nat → List f_V → List f_V → e_M → Prop
def f_E (sh : Nat → Nat × Nat) (t : Nat) (Y : e_Y) (rm : Nat × Nat × Nat) (cs : Nat × Nat) (Q : Option e_V → e_G → Prop) (pc : Nat) (ls st : List f_V) (M : e_M) : Prop :=
  f_tvs sh t ls → f_tvs sh t st → ls.length ≤ Y.2.2.1 → f_Ty sh M t → e_T sh Y rm pc (ls.map f_ev) (st.map f_ev) (M, t) cs Q
/-! what lies on the stack, in the locals -/
def f_eI (st : List f_V) (k : Int → List f_V → Prop) : Prop := match st with
  | .inl x :: r => k x r
  | _ => False
def f_eL (st : List f_V) (k : Int → List f_V → Prop) : Prop := match st with
  | .inr (.inl x) :: r => k x r
  | _ => False
def f_eA (st : List f_V) (k : Nat → Nat → Nat → List f_V → Prop) : Prop := match st with
  | .inr (.inr (.inl q)) :: r => k q.1 q.2.1 q.2.2 r
  | _ => False
/-- one word, no long -/
def f_eV (st : List f_V) (k : f_V → List f_V → Prop) : Prop := match st with
  | .inl x :: r => k (.inl x) r
  | .inr (.inr (.inl q)) :: r => k (.inr (.inr (.inl q))) r
  | _ => False
theorem f_eI_b {st : List f_V} {k : Int → List f_V → Prop} (h : f_eI st k) : ∃ x r, st = .inl x :: r ∧ k x r := by
  unfold f_eI at h
  split at h
  · exact ⟨_, _, rfl, h⟩
  · exact h.elim
theorem f_eL_b {st : List f_V} {k : Int → List f_V → Prop} (h : f_eL st k) : ∃ x r, st = .inr (.inl x) :: r ∧ k x r := by
  unfold f_eL at h
  split at h
  · exact ⟨_, _, rfl, h⟩
  · exact h.elim
theorem f_eA_b {st : List f_V} {k : Nat → Nat → Nat → List f_V → Prop} (h : f_eA st k) : ∃ q r, st = .inr (.inr (.inl q)) :: r ∧ k q.1 q.2.1 q.2.2 r := by
  unfold f_eA at h
  split at h
  · exact ⟨_, _, rfl, h⟩
  · exact h.elim
theorem f_eV_b {st : List f_V} {k : f_V → List f_V → Prop} (h : f_eV st k) : ∃ v r, st = v :: r ∧ (∀ x, f_ev v ≠ .inr (.inl x)) ∧ f_ev v ≠ .inr (.inr (.inr ())) ∧ k v r := by
  unfold f_eV at h
  split at h
  · exact ⟨_, _, rfl, (fun x e => by cases e), (fun e => by cases e), h⟩
  · exact ⟨_, _, rfl, (fun x e => by cases e), (fun e => by cases e), h⟩
  · exact h.elim
/-- locals: what a store leaves of them -/
def f_cut (ls : List f_V) (i : Nat) : List f_V := match i with
  | 0 => ls
  | j + 1 => match ls[j]? with
    | some (.inr (.inl _)) => ls.set j (.inr (.inr (.inr ())))
    | _ => ls
def f_l1 (ls : List f_V) (i : Nat) (v : f_V) : List f_V := (f_cut ls i).set i v
def f_l2 (ls : List f_V) (i : Nat) (v : f_V) : List f_V := ((f_cut ls i).set (i + 1) (.inr (.inr (.inr ())))).set i v
/-- the same, worked out -/
def f_ctk (ls : List f_V) (i : Nat) (k : List f_V → Prop) : Prop := match i with
  | 0 => k ls
  | j + 1 => match ls[j]? with
    | some (.inr (.inl _)) => x_lsk (.inr (.inr (.inr ()))) j ls k
    | _ => k ls
theorem f_ctk_eq {ls : List f_V} {i : Nat} {k : List f_V → Prop} : f_ctk ls i k = k (f_cut ls i) := by
  cases i with
  | zero => rfl
  | succ j =>
    unfold f_ctk f_cut
    dsimp only
    split
    · rw [x_lsk_eq]
    · rfl
def f_l1k (ls : List f_V) (i : Nat) (v : f_V) (k : List f_V → Prop) : Prop := f_ctk ls i fun l => x_lsk v i l k
def f_l2k (ls : List f_V) (i : Nat) (v : f_V) (k : List f_V → Prop) : Prop := f_ctk ls i fun l => x_lsk (.inr (.inr (.inr ()))) (i + 1) l fun r => x_lsk v i r k
theorem f_l1k_eq {ls : List f_V} {i : Nat} {v : f_V} {k : List f_V → Prop} : f_l1k ls i v k = k (f_l1 ls i v) := by
  unfold f_l1k f_l1
  rw [f_ctk_eq, x_lsk_eq]
theorem f_l2k_eq {ls : List f_V} {i : Nat} {v : f_V} {k : List f_V → Prop} : f_l2k ls i v k = k (f_l2 ls i v) := by
  unfold f_l2k f_l2
  rw [f_ctk_eq, x_lsk_eq, x_lsk_eq]
theorem f_cut_ev {ls : List f_V} {i : Nat} : (f_cut ls i).map f_ev = e_cut (ls.map f_ev) i := by
  cases i with
  | zero => rfl
  | succ j =>
    unfold f_cut e_cut
    dsimp only
    rw [List.getElem?_map]
    cases h : ls[j]? with
    | none => rfl
    | some v =>
      rcases v with x | x | x | x
      · rfl
      · show (ls.set j _).map f_ev = (ls.map f_ev).set j _
        rw [List.map_set]; rfl
      · rfl
      · rfl
theorem f_l1_ev {ls : List f_V} {i : Nat} {v : f_V} : (f_l1 ls i v).map f_ev = e_s1 (ls.map f_ev) i (f_ev v) := by
  unfold f_l1 e_s1
  rw [List.map_set, f_cut_ev]
theorem f_l2_ev {ls : List f_V} {i : Nat} {v : f_V} : (f_l2 ls i v).map f_ev = e_s2 (ls.map f_ev) i (f_ev v) := by
  unfold f_l2 e_s2
  rw [List.map_set, List.map_set, f_cut_ev]; rfl
theorem f_cut_len {ls : List f_V} {i : Nat} : (f_cut ls i).length = ls.length := by
  unfold f_cut
  split
  · rfl
  · split
    · rw [List.length_set]
    · rfl
theorem f_l1_len {ls : List f_V} {i : Nat} {v : f_V} : (f_l1 ls i v).length = ls.length := by unfold f_l1; rw [List.length_set, f_cut_len]
theorem f_l2_len {ls : List f_V} {i : Nat} {v : f_V} : (f_l2 ls i v).length = ls.length := by unfold f_l2; rw [List.length_set, List.length_set, f_cut_len]
section TV
variable {sh : Nat → Nat × Nat} {t : Nat}
theorem f_tvs_cons {v : f_V} {l : List f_V} (h : f_tvs sh t (v :: l)) : f_tv sh t v ∧ f_tvs sh t l := ⟨h v List.mem_cons_self, fun w hw => h w (List.mem_cons_of_mem _ hw)⟩
theorem f_tvs_mk {v : f_V} {l : List f_V} (h : f_tv sh t v) (hl : f_tvs sh t l) : f_tvs sh t (v :: l) := List.forall_mem_cons.mpr ⟨h, hl⟩
theorem f_tvs_set {v : f_V} {l : List f_V} {i : Nat} (h : f_tv sh t v) (hl : f_tvs sh t l) : f_tvs sh t (l.set i v) := by
  intro w hw
  rcases List.mem_or_eq_of_mem_set hw with h1 | h1
  · exact hl w h1
  · rw [h1]; exact h
theorem f_tvs_cut {l : List f_V} {i : Nat} (hl : f_tvs sh t l) : f_tvs sh t (f_cut l i) := by
  unfold f_cut
  split
  · exact hl
  · split
    · exact f_tvs_set trivial hl
    · exact hl
theorem f_tvs_l1 {v : f_V} {l : List f_V} {i : Nat} (h : f_tv sh t v) (hl : f_tvs sh t l) : f_tvs sh t (f_l1 l i v) := f_tvs_set h (f_tvs_cut hl)
theorem f_tvs_l2 {v : f_V} {l : List f_V} {i : Nat} (h : f_tv sh t v) (hl : f_tvs sh t l) : f_tvs sh t (f_l2 l i v) := f_tvs_set h (f_tvs_set trivial (f_tvs_cut hl))
theorem f_tvs_at {v : f_V} {l : List f_V} {i : Nat} (hl : f_tvs sh t l) (h : l[i]? = some v) : f_tv sh t v := hl v (List.mem_of_getElem? h)
end TV
/-! numbers -/
def f_and (x y : Int) : Int := (Int32.ofInt x &&& Int32.ofInt y).toInt
def f_or (x y : Int) : Int := (Int32.ofInt x ||| Int32.ofInt y).toInt
def f_xor (x y : Int) : Int := (Int32.ofInt x ^^^ Int32.ofInt y).toInt
def f_shl (x y : Int) : Int := (Int32.ofInt x <<< (Int32.ofInt y &&& 31)).toInt
def f_shr (x y : Int) : Int := (Int32.ofInt x >>> (Int32.ofInt y &&& 31)).toInt
def f_andJ (x y : Int) : Int := (Int64.ofInt x &&& Int64.ofInt y).toInt
def f_orJ (x y : Int) : Int := (Int64.ofInt x ||| Int64.ofInt y).toInt
def f_xorJ (x y : Int) : Int := (Int64.ofInt x ^^^ Int64.ofInt y).toInt
def f_shlJ (x y : Int) : Int := (Int64.ofInt x <<< ((Int32.ofInt y).toInt64 &&& 63)).toInt
def f_shrJ (x y : Int) : Int := (Int64.ofInt x >>> ((Int32.ofInt y).toInt64 &&& 63)).toInt
def f_absJ (x : Int) : Int := if 0 < x then x else e_w64 (-x)
def f_ushrJ (x y : Int) : Int := (((Int64.ofInt x).toUInt64 >>> ((Int32.ofInt y).toInt64.toUInt64 &&& Int64.toUInt64 63)).toInt64).toInt
def f_bf (b : Nat) (x y : Int) : Int := match b with
  | 0 => e_w32 (x + y)
  | 1 => e_w32 (x - y)
  | 2 => e_w32 (x * y)
  | 3 => e_w32 (x.tdiv y)
  | 4 => x.tmod y
  | 5 => f_and x y
  | 6 => f_or x y
  | 7 => f_xor x y
  | 8 => f_shl x y
  | _ => f_shr x y
def f_lf (b : Nat) (x y : Int) : Int := match b with
  | 0 => e_w64 (x + y)
  | 1 => e_w64 (x - y)
  | 2 => e_w64 (x * y)
  | 3 => e_w64 (x.tdiv y)
  | 4 => x.tmod y
  | 5 => f_andJ x y
  | 6 => f_orJ x y
  | _ => f_xorJ x y
def f_hf (b : Nat) (x y : Int) : Int := match b with
  | 0 => f_shlJ x y
  | 1 => f_shrJ x y
  | _ => f_ushrJ x y
def f_dv (b : Nat) (y : Int) (P : Prop) : Prop := match b with
  | 3 => ¬ y = 0 ∧ P
  | 4 => ¬ y = 0 ∧ P
  | _ => P
def f_br (b : Nat) (x y : Int) (A B : Prop) : Prop := match b with
  | 0 => (x = y → A) ∧ (¬ x = y → B)
  | 1 => (¬ x = y → A) ∧ (x = y → B)
  | 2 => (x < y → A) ∧ (y ≤ x → B)
  | 3 => (y ≤ x → A) ∧ (x < y → B)
  | 4 => (y < x → A) ∧ (x ≤ y → B)
  | _ => (x ≤ y → A) ∧ (y < x → B)
def f_sw (P : Nat → Nat → Prop) (dp dj : Nat) (x : Int) : List (Int × Nat × Nat) → Prop
  | [] => P dp dj
  | (k, p, j) :: r => (x = k → P p j) ∧ (¬ x = k → f_sw P dp dj x r)
def f_cat (st : List f_V) : Nat := match st with
  | [] => 0
  | .inr (.inl _) :: r => f_cat r + 2
  | _ :: r => f_cat r + 1
theorem f_cat_ev : ∀ {st : List f_V}, e_cat (st.map f_ev) = f_cat st
  | [] => rfl
  | v :: r => by
    have ih := f_cat_ev (st := r)
    unfold e_cat at ih ⊢
    rw [List.map_cons, List.map_cons, List.sum_cons, ih]
    rcases v with x | x | x | x
    · show 1 + _ = f_cat r + 1; omega
    · show 2 + _ = f_cat r + 2; omega
    · show 1 + _ = f_cat r + 1; omega
    · show 1 + _ = f_cat r + 1; omega
/-! the instructions -/
def f_s0 (K : f_Kt) (pc a b c : Nat) (z : Int) (t : List (Int × Nat × Nat)) (ls st : List f_V) (M : e_M) : Prop := K 0 (pc + a) ls (.inl z :: st) M
def f_s1 (K : f_Kt) (pc a b c : Nat) (z : Int) (t : List (Int × Nat × Nat)) (ls st : List f_V) (M : e_M) : Prop := K 0 (pc + a) ls (.inr (.inl z) :: st) M
def f_s2 (K : f_Kt) (pc a b c : Nat) (z : Int) (t : List (Int × Nat × Nat)) (ls st : List f_V) (M : e_M) : Prop := match ls[b]? with
  | some (.inl x) => K 0 (pc + a) ls (.inl x :: st) M
  | _ => False
def f_s3 (K : f_Kt) (pc a b c : Nat) (z : Int) (t : List (Int × Nat × Nat)) (ls st : List f_V) (M : e_M) : Prop := match ls[b]? with
  | some (.inr (.inl x)) => K 0 (pc + a) ls (.inr (.inl x) :: st) M
  | _ => False
def f_s4 (K : f_Kt) (pc a b c : Nat) (z : Int) (t : List (Int × Nat × Nat)) (ls st : List f_V) (M : e_M) : Prop := match ls[b]? with
  | some (.inr (.inr (.inl q))) => K 0 (pc + a) ls (.inr (.inr (.inl q)) :: st) M
  | _ => False
def f_s5 (K : f_Kt) (pc a b c : Nat) (z : Int) (t : List (Int × Nat × Nat)) (ls st : List f_V) (M : e_M) : Prop := f_eI st fun x r => f_l1k ls b (.inl x) fun l => K 0 (pc + a) l r M
def f_s6 (K : f_Kt) (pc a b c : Nat) (z : Int) (t : List (Int × Nat × Nat)) (ls st : List f_V) (M : e_M) : Prop := f_eL st fun x r => f_l2k ls b (.inr (.inl x)) fun l => K 0 (pc + a) l r M
def f_s7 (K : f_Kt) (pc a b c : Nat) (z : Int) (t : List (Int × Nat × Nat)) (ls st : List f_V) (M : e_M) : Prop := f_eA st fun k n q r => f_l1k ls b (.inr (.inr (.inl (k, n, q)))) fun l => K 0 (pc + a) l r M
def f_s8 (K : f_Kt) (pc a b c : Nat) (z : Int) (t : List (Int × Nat × Nat)) (ls st : List f_V) (M : e_M) : Prop := match ls[b]? with
  | some (.inl x) => f_l1k ls b (.inl (e_w32 (x + z))) fun l => K 0 (pc + 3) l st M
  | _ => False
def f_s9 (K : f_Kt) (pc a b c : Nat) (z : Int) (t : List (Int × Nat × Nat)) (ls st : List f_V) (M : e_M) : Prop := f_eI st fun y r => f_eI r fun x r2 => f_dv b y (K 0 (pc + 1) ls (.inl (f_bf b x y) :: r2) M)
def f_s10 (K : f_Kt) (pc a b c : Nat) (z : Int) (t : List (Int × Nat × Nat)) (ls st : List f_V) (M : e_M) : Prop := f_eL st fun y r => f_eL r fun x r2 => f_dv b y (K 0 (pc + 1) ls (.inr (.inl (f_lf b x y)) :: r2) M)
def f_s11 (K : f_Kt) (pc a b c : Nat) (z : Int) (t : List (Int × Nat × Nat)) (ls st : List f_V) (M : e_M) : Prop := f_eI st fun y r => f_eL r fun x r2 => K 0 (pc + 1) ls (.inr (.inl (f_hf b x y)) :: r2) M
def f_s12 (K : f_Kt) (pc a b c : Nat) (z : Int) (t : List (Int × Nat × Nat)) (ls st : List f_V) (M : e_M) : Prop := f_eI st fun x r => K 0 (pc + 1) ls (.inl (cond (Nat.beq b 0) (e_w32 (-x)) (e_w8 x)) :: r) M
def f_s13 (K : f_Kt) (pc a b c : Nat) (z : Int) (t : List (Int × Nat × Nat)) (ls st : List f_V) (M : e_M) : Prop := f_eL st fun x r => K 0 (pc + 1) ls (.inr (.inl (e_w64 (-x))) :: r) M
def f_s14 (K : f_Kt) (pc a b c : Nat) (z : Int) (t : List (Int × Nat × Nat)) (ls st : List f_V) (M : e_M) : Prop := f_eI st fun x r => K 0 (pc + 1) ls (.inr (.inl x) :: r) M
def f_s15 (K : f_Kt) (pc a b c : Nat) (z : Int) (t : List (Int × Nat × Nat)) (ls st : List f_V) (M : e_M) : Prop := f_eL st fun x r => K 0 (pc + 1) ls (.inl (e_w32 x) :: r) M
/-- Math.abs -/
def f_s16 (K : f_Kt) (pc a b c : Nat) (z : Int) (t : List (Int × Nat × Nat)) (ls st : List f_V) (M : e_M) : Prop := f_eI st fun x r => cond (Nat.ble (f_cat r) 8) (K 0 (pc + 3) ls (.inl (e_abs x) :: r) M) False
def f_s17 (K : f_Kt) (pc a b c : Nat) (z : Int) (t : List (Int × Nat × Nat)) (ls st : List f_V) (M : e_M) : Prop := f_eI st fun x r => f_br b x 0 (K c a ls r M) (K 0 (pc + 3) ls r M)
def f_s18 (K : f_Kt) (pc a b c : Nat) (z : Int) (t : List (Int × Nat × Nat)) (ls st : List f_V) (M : e_M) : Prop := f_eI st fun y r => f_eI r fun x r2 => f_br b x y (K c a ls r2 M) (K 0 (pc + 3) ls r2 M)
def f_s19 (K : f_Kt) (pc a b c : Nat) (z : Int) (t : List (Int × Nat × Nat)) (ls st : List f_V) (M : e_M) : Prop := K c a ls st M
def f_s20 (K : f_Kt) (pc a b c : Nat) (z : Int) (t : List (Int × Nat × Nat)) (ls st : List f_V) (M : e_M) : Prop := f_eV st fun v r => K 0 (pc + 1) ls (v :: v :: r) M
def f_s21 (K : f_Kt) (pc a b c : Nat) (z : Int) (t : List (Int × Nat × Nat)) (ls st : List f_V) (M : e_M) : Prop := f_eV st fun v r => K 0 (pc + 1) ls r M
def f_s22 (K : f_Kt) (pc a b c : Nat) (z : Int) (t : List (Int × Nat × Nat)) (ls st : List f_V) (M : e_M) : Prop := f_eL st fun v r => K 0 (pc + 1) ls r M
def f_s23 (K : f_Kt) (pc a b c : Nat) (z : Int) (t : List (Int × Nat × Nat)) (ls st : List f_V) (M : e_M) : Prop := f_eV st fun v r => f_eV r fun u r2 => K 0 (pc + 1) ls (v :: u :: v :: u :: r2) M
def f_s24 (K : f_Kt) (pc a b c : Nat) (z : Int) (t : List (Int × Nat × Nat)) (ls st : List f_V) (M : e_M) : Prop := f_eI st fun x r => f_sw (fun p j => K j p ls r M) a c x t
/-- a reference's kind, length, whether its cell is read (0) or how far behind it lies -/
def f_td (t : List (Int × Nat × Nat)) (k : Nat → Nat → Nat → Nat → Prop) : Prop := match t with
  | (_, kd, n) :: (_, m, o) :: _ => k m kd n o
  | _ => False
def f_s25 (K : f_Kt) (pc a b c : Nat) (z : Int) (t : List (Int × Nat × Nat)) (ls st : List f_V) (M : e_M) : Prop := f_eA st fun kd n q r => cond (Nat.beq kd a) (match c with
  | 3 => K 0 (pc + 3) ls (.inr (.inl (M q b)) :: r) M
  | 4 => f_td t fun m k2 n2 o => (match m with
    | 0 => K 0 (pc + 3) ls (.inr (.inr (.inl (k2, n2, (M q b).toNat))) :: r) M
    | 1 => K 0 (pc + 3) ls (.inr (.inr (.inl (k2, n2, q + o))) :: r) M
    | _ => K 0 (pc + 3) ls (.inr (.inr (.inl (k2, n2, o))) :: r) M)
  | _ => K 0 (pc + 3) ls (.inl (M q b) :: r) M) False
def f_s26 (K : f_Kt) (pc a b c : Nat) (z : Int) (t : List (Int × Nat × Nat)) (ls st : List f_V) (M : e_M) : Prop := match c with
  | 0 => f_eI st fun x r => f_eA r fun kd n q r2 => cond (Nat.beq kd a) (∀ M2, M2 = e_up M q b x → K 0 (pc + 3) ls r2 M2) False
  | 1 => f_eI st fun x r => f_eA r fun kd n q r2 => cond (Nat.beq kd a) ((x = 0 ∨ x = 1) ∧ ∀ M2, M2 = e_up M q b x → K 0 (pc + 3) ls r2 M2) False
  | 3 => f_eL st fun x r => f_eA r fun kd n q r2 => cond (Nat.beq kd a) (∀ M2, M2 = e_up M q b x → K 0 (pc + 3) ls r2 M2) False
  | 4 => f_eA st fun k2 n2 x r => f_eA r fun kd n q r2 => f_td t fun m k3 n3 o => cond (Nat.beq kd a && (Nat.beq k2 k3 && (Nat.beq n2 n3 && ((Nat.beq m 0 || (Nat.beq m 2 && Nat.beq x o)) && Nat.blt k2 100)))) (∀ M2, M2 = e_up M q b (x : Int) → K 0 (pc + 3) ls r2 M2) False
  | _ => False
def f_s27 (K : f_Kt) (pc a b c : Nat) (z : Int) (t : List (Int × Nat × Nat)) (ls st : List f_V) (M : e_M) : Prop := f_eI st fun i r => f_eA r fun kd n q r2 => match b with
  | 0 => cond (Nat.beq kd 20) ((0 ≤ i ∧ i < (n : Int)) ∧ K 0 (pc + 1) ls (.inl (M q i.toNat) :: r2) M) (cond (Nat.beq kd 120) ((0 ≤ i ∧ i < (n : Int)) ∧ K 0 (pc + 1) ls (.inl (f_kt q i.toNat) :: r2) M) False)
  | 1 => cond (Nat.beq kd 23) ((0 ≤ i ∧ i < (n : Int)) ∧ K 0 (pc + 1) ls (.inr (.inl (M q i.toNat)) :: r2) M) False
  | 2 => cond (Nat.beq kd 22 || Nat.beq kd 21) ((0 ≤ i ∧ i < (n : Int)) ∧ K 0 (pc + 1) ls (.inl (M q i.toNat) :: r2) M) False
  | _ => f_td t fun m k2 n2 o => cond (Nat.beq kd (k2 + 30)) ((0 ≤ i ∧ i < (n : Int)) ∧ K 0 (pc + 1) ls (.inr (.inr (.inl (k2, n2, (M q i.toNat).toNat))) :: r2) M) False
def f_s28 (K : f_Kt) (pc a b c : Nat) (z : Int) (t : List (Int × Nat × Nat)) (ls st : List f_V) (M : e_M) : Prop := match b with
  | 0 => f_eI st fun x r => f_eI r fun i r2 => f_eA r2 fun kd n q r3 => cond (Nat.beq kd 20) ((0 ≤ i ∧ i < (n : Int)) ∧ ∀ M2, M2 = e_up M q i.toNat x → K 0 (pc + 1) ls r3 M2) False
  | _ => f_eL st fun x r => f_eI r fun i r2 => f_eA r2 fun kd n q r3 => cond (Nat.beq kd 23) ((0 ≤ i ∧ i < (n : Int)) ∧ ∀ M2, M2 = e_up M q i.toNat x → K 0 (pc + 1) ls r3 M2) False
def f_s29 (K : f_Kt) (pc a b c : Nat) (z : Int) (t : List (Int × Nat × Nat)) (ls st : List f_V) (M : e_M) : Prop := f_eI st fun x r => f_eI r fun i r2 => f_eA r2 fun kd n q r3 =>
  cond (Nat.beq kd 22) ((0 ≤ i ∧ i < (n : Int)) ∧ ∀ M2, M2 = e_up M q i.toNat (e_w8 x) → K 0 (pc + 1) ls r3 M2) (cond (Nat.beq kd 21) (((0 ≤ i ∧ i < (n : Int)) ∧ (x = 0 ∨ x = 1)) ∧ ∀ M2, M2 = e_up M q i.toNat x → K 0 (pc + 1) ls r3 M2) False)
def f_s30 (K : f_Kt) (pc a b c : Nat) (z : Int) (t : List (Int × Nat × Nat)) (ls st : List f_V) (M : e_M) : Prop := f_eA st fun k2 n2 x r => f_eI r fun i r2 => f_eA r2 fun kd n q r3 => f_td t fun m k3 n3 o =>
  cond (Nat.beq kd (k2 + 30) && (Nat.beq k2 k3 && (Nat.beq n2 n3 && Nat.blt k2 13))) ((0 ≤ i ∧ i < (n : Int)) ∧ ∀ M2, M2 = e_up M q i.toNat (x : Int) → K 0 (pc + 1) ls r3 M2) False
def f_s31 (K : f_Kt) (pc a b c : Nat) (z : Int) (t : List (Int × Nat × Nat)) (ls st : List f_V) (M : e_M) : Prop := f_eA st fun kd n q r => cond (Nat.ble 20 kd && (Nat.blt kd 100 && Nat.blt n 2147483648)) (K 0 (pc + 1) ls (.inl (n : Int) :: r) M) False
/-- two longs are compared -/
def f_s32 (K : f_Kt) (pc a b c : Nat) (z : Int) (t : List (Int × Nat × Nat)) (ls st : List f_V) (M : e_M) : Prop := f_eL st fun y r => f_eL r fun x r2 => f_br b x y (K c a ls r2 M) (K 0 (pc + 4) ls r2 M)
/-- what lies there has a name -/
def f_s33 (K : f_Kt) (pc a b c : Nat) (z : Int) (t : List (Int × Nat × Nat)) (ls st : List f_V) (M : e_M) : Prop := match st with
  | .inl x :: r => ∀ y, y = x → K 0 pc ls (.inl y :: r) M
  | .inr (.inl x) :: r => ∀ y, y = x → K 0 pc ls (.inr (.inl y) :: r) M
  | .inr (.inr (.inl q)) :: r => ∀ y, y = q.2.2 → K 0 pc ls (.inr (.inr (.inl (q.1, q.2.1, y))) :: r) M
  | _ => False
def f_s34 (K : f_Kt) (pc a b c : Nat) (z : Int) (t : List (Int × Nat × Nat)) (ls st : List f_V) (M : e_M) : Prop := f_eL st fun x r => cond (Nat.ble (f_cat r) 8) (K 0 (pc + 3) ls (.inr (.inl (f_absJ x)) :: r) M) False
def f_s35 (K : f_Kt) (pc a b c : Nat) (z : Int) (t : List (Int × Nat × Nat)) (ls st : List f_V) (M : e_M) : Prop := K 0 (pc + a) ls (.inr (.inr (.inl (120, c, b))) :: st) M
def f_s36 (K : f_Kt) (pc a b c : Nat) (z : Int) (t : List (Int × Nat × Nat)) (ls st : List f_V) (M : e_M) : Prop := f_eA st fun kd n q r => cond (Nat.beq kd 115 && Nat.ble (f_cat r) 8) (K 0 (pc + 3) ls (.inl (n : Int) :: r) M) False
def f_s37 (K : f_Kt) (pc a b c : Nat) (z : Int) (t : List (Int × Nat × Nat)) (ls st : List f_V) (M : e_M) : Prop := f_eI st fun i r => f_eA r fun kd n q r2 => cond (Nat.beq kd 115 && Nat.ble (f_cat r2) 8) ((0 ≤ i ∧ i < (n : Int)) ∧ K 0 (pc + 3) ls (.inl (f_kt (q + 29) i.toNat) :: r2) M) False
def f_s38 (K : f_Kt) (pc a b c : Nat) (z : Int) (t : List (Int × Nat × Nat)) (ls st : List f_V) (M : e_M) : Prop := K 0 (pc + a) ls (.inr (.inr (.inl (115, c, b))) :: st) M
def f_s39 (K : f_Kt) (pc a b c : Nat) (z : Int) (t : List (Int × Nat × Nat)) (ls st : List f_V) (M : e_M) : Prop := match c with
  | 0 => f_eI st fun y r => f_eI r fun x r2 => cond (Nat.ble (f_cat r2) 8) (K 0 (pc + 3) ls (.inl (cond (Nat.beq b 0) (e_min x y) (e_max x y)) :: r2) M) False
  | _ => f_eL st fun y r => f_eL r fun x r2 => cond (Nat.ble (f_cat r2) 8) (K 0 (pc + 3) ls (.inr (.inl (cond (Nat.beq b 0) (e_min x y) (e_max x y))) :: r2) M) False
def f_st (op : Nat) : (K : f_Kt) → (pc a b c : Nat) → (z : Int) → (t : List (Int × Nat × Nat)) → (ls st : List f_V) → (M : e_M) → Prop :=
  cond (Nat.blt op 20) (cond (Nat.blt op 10) (cond (Nat.blt op 5) (cond (Nat.blt op 2) (cond (Nat.blt op 1) (f_s0) (f_s1)) (cond (Nat.blt op 3) (f_s2) (cond (Nat.blt op 4) (f_s3) (f_s4)))) (cond (Nat.blt op 7) (cond (Nat.blt op 6) (f_s5) (f_s6)) (cond (Nat.blt op 8) (f_s7) (cond (Nat.blt op 9) (f_s8) (f_s9))))) (cond (Nat.blt op 15) (cond (Nat.blt op 12) (cond (Nat.blt op 11) (f_s10) (f_s11)) (cond (Nat.blt op 13) (f_s12) (cond (Nat.blt op 14) (f_s13) (f_s14)))) (cond (Nat.blt op 17) (cond (Nat.blt op 16) (f_s15) (f_s16)) (cond (Nat.blt op 18) (f_s17) (cond (Nat.blt op 19) (f_s18) (f_s19)))))) (cond (Nat.blt op 30) (cond (Nat.blt op 25) (cond (Nat.blt op 22) (cond (Nat.blt op 21) (f_s20) (f_s21)) (cond (Nat.blt op 23) (f_s22) (cond (Nat.blt op 24) (f_s23) (f_s24)))) (cond (Nat.blt op 27) (cond (Nat.blt op 26) (f_s25) (f_s26)) (cond (Nat.blt op 28) (f_s27) (cond (Nat.blt op 29) (f_s28) (f_s29))))) (cond (Nat.blt op 35) (cond (Nat.blt op 32) (cond (Nat.blt op 31) (f_s30) (f_s31)) (cond (Nat.blt op 33) (f_s32) (cond (Nat.blt op 34) (f_s33) (f_s34)))) (cond (Nat.blt op 37) (cond (Nat.blt op 36) (f_s35) (f_s36)) (cond (Nat.blt op 38) (f_s37) (cond (Nat.blt op 39) (f_s38) (f_s39))))))
/-! an instruction's words say what the method's instruction does -/
def f_H (sh : Nat → Nat × Nat) (t : Nat) (Y : e_Y) (rm : Nat × Nat × Nat) (cs : Nat × Nat) (Q : Option e_V → e_G → Prop) (K : f_Kt) (ls st : List f_V) (M : e_M) : Prop :=
  4 ≤ rm.1 ∧ cs.1 ≤ rm.2.1 ∧ cs.2 ≤ rm.2.2 ∧ f_tvs sh t ls ∧ f_tvs sh t st ∧ ls.length ≤ Y.2.2.1 ∧ f_Ty sh M t ∧ ∀ j p l s m, K j p l s m → f_E sh t Y rm cs Q p l s m
def f_ok (Y : e_Y) (op pc a b c : Nat) (z : Int) (t : List (Int × Nat × Nat)) : Prop :=
  ∀ (sh : Nat → Nat × Nat) (t0 : Nat) (rm : Nat × Nat × Nat) (cs : Nat × Nat) (Q : Option e_V → e_G → Prop) (K : f_Kt) (ls st : List f_V) (M : e_M), f_H sh t0 Y rm cs Q K ls st M → f_st op K pc a b c z t ls st M → e_T sh Y rm pc (ls.map f_ev) (st.map f_ev) (M, t0) cs Q
section FOK
variable {Y : e_Y} {pc a b c idx : Nat} {z : Int} {t : List (Int × Nat × Nat)}
theorem f_H.go {sh : Nat → Nat × Nat} {t : Nat} {rm : Nat × Nat × Nat} {cs : Nat × Nat} {Q : Option e_V → e_G → Prop} {K : f_Kt} {ls st st' : List f_V} {M : e_M} {j p : Nat} (H : f_H sh t Y rm cs Q K ls st M) (h : K j p ls st' M) (hs : f_tvs sh t st') : e_T sh Y rm p (ls.map f_ev) (st'.map f_ev) (M, t) cs Q :=
  H.2.2.2.2.2.2.2 j p ls st' M h H.2.2.2.1 hs H.2.2.2.2.2.1 H.2.2.2.2.2.2.1
theorem f_H.st {sh : Nat → Nat × Nat} {t : Nat} {rm : Nat × Nat × Nat} {cs : Nat × Nat} {Q : Option e_V → e_G → Prop} {K : f_Kt} {ls st : List f_V} {M : e_M} (H : f_H sh t Y rm cs Q K ls st M) : f_tvs sh t st := H.2.2.2.2.1
theorem f_lk {ls : List f_V} {i : Nat} {v : f_V} (h : ls[i]? = some v) : (ls.map f_ev)[i]? = some (f_ev v) := by rw [List.getElem?_map, h]; rfl
theorem f_iconst {n : Int} (hdg : decode Y.2.1 pc = .ok (.iconst n, 1)) (hn : e_i32 n) : f_ok Y 0 pc 1 b c n t := fun _ _ _ _ _ _ _ _ _ H h => e_iconst hdg hn (H.go h (f_tvs_mk trivial H.st))
theorem f_bipush {n : Int} (hdg : decode Y.2.1 pc = .ok (.bipush n, 2)) (hn : -128 ≤ n ∧ n < 128) : f_ok Y 0 pc 2 b c n t := fun _ _ _ _ _ _ _ _ _ H h => e_bipush hdg hn (H.go h (f_tvs_mk trivial H.st))
theorem f_sipush {n : Int} (hdg : decode Y.2.1 pc = .ok (.sipush n, 3)) (hn : -32768 ≤ n ∧ n < 32768) : f_ok Y 0 pc 3 b c n t := fun _ _ _ _ _ _ _ _ _ H h => e_sipush hdg hn (H.go h (f_tvs_mk trivial H.st))
theorem f_ldc {z32 : Int32} {n : Int} (hdg : decode Y.2.1 pc = .ok (.ldc idx, 2)) (hw : Cond.constant Y.1.cls idx z32 ∈ e_gd) (hz : z32 = Int32.ofInt n) (hn : e_i32 n) : f_ok Y 0 pc 2 b c n t := fun _ _ _ _ _ _ _ _ _ H h => e_ldc hdg hw hz hn (H.go h (f_tvs_mk trivial H.st))
theorem f_ldcw {z32 : Int32} {n : Int} (hdg : decode Y.2.1 pc = .ok (.ldc_w idx, 3)) (hw : Cond.constant Y.1.cls idx z32 ∈ e_gd) (hz : z32 = Int32.ofInt n) (hn : e_i32 n) : f_ok Y 0 pc 3 b c n t := fun _ _ _ _ _ _ _ _ _ H h => e_ldcw hdg hw hz hn (H.go h (f_tvs_mk trivial H.st))
theorem f_ldc2 {z64 : Int64} {n : Int} (hdg : decode Y.2.1 pc = .ok (.ldc2_w idx, 3)) (hw : Cond.constantLong Y.1.cls idx z64 ∈ e_gd) (hz : z64 = Int64.ofInt n) (hn : e_i64 n) : f_ok Y 1 pc 3 b c n t := fun _ _ _ _ _ _ _ _ _ H h => e_ldc2 hdg hw hz hn (H.go h (f_tvs_mk trivial H.st))
theorem f_lconst {n : Fin 2} {z0 : Int} (hdg : decode Y.2.1 pc = .ok (.lconst n, 1)) (hz : ((n : Nat) : Int) = z0) : f_ok Y 1 pc 1 b c z0 t := fun _ _ _ _ _ _ _ _ _ H h => e_lconst hdg hz (H.go h (f_tvs_mk trivial H.st))
theorem f_g2 (row : ∀ {sh : Nat → Nat × Nat} {rm : Nat × Nat × Nat} {ls st : List e_V} {g : e_G} {cs : Nat × Nat} {Q : Option e_V → e_G → Prop} {x : Int}, ls[b]? = some (.inl x) → e_T sh Y rm (pc + a) ls (.inl x :: st) g cs Q → e_T sh Y rm pc ls st g cs Q) : f_ok Y 2 pc a b c z t := by
  intro sh t0 rm cs Q K ls st M H h
  replace h : f_s2 K pc a b c z t ls st M := h
  unfold f_s2 at h
  split at h
  · rename_i x hx
    exact row (f_lk hx) (H.go h (f_tvs_mk trivial H.st))
  · exact h.elim
theorem f_iload (hdg : decode Y.2.1 pc = .ok (.iload b, 2)) : f_ok Y 2 pc 2 b c z t := f_g2 fun hi k => e_iload hdg hi k
theorem f_iload_n {n : Fin 4} (hdg : decode Y.2.1 pc = .ok (.iload_n n, 1)) (hb : (n : Nat) = b) : f_ok Y 2 pc 1 b c z t := f_g2 fun hi k => e_iload_n hdg (by rw [hb]; exact hi) k
theorem f_g3 (row : ∀ {sh : Nat → Nat × Nat} {rm : Nat × Nat × Nat} {ls st : List e_V} {g : e_G} {cs : Nat × Nat} {Q : Option e_V → e_G → Prop} {x : Int}, ls[b]? = some (.inr (.inl x)) → e_T sh Y rm (pc + a) ls (.inr (.inl x) :: st) g cs Q → e_T sh Y rm pc ls st g cs Q) : f_ok Y 3 pc a b c z t := by
  intro sh t0 rm cs Q K ls st M H h
  replace h : f_s3 K pc a b c z t ls st M := h
  unfold f_s3 at h
  split at h
  · rename_i x hx
    exact row (f_lk hx) (H.go h (f_tvs_mk trivial H.st))
  · exact h.elim
theorem f_lload (hdg : decode Y.2.1 pc = .ok (.lload b, 2)) : f_ok Y 3 pc 2 b c z t := f_g3 fun hi k => e_lload hdg hi k
theorem f_lload_n {n : Fin 4} (hdg : decode Y.2.1 pc = .ok (.lload_n n, 1)) (hb : (n : Nat) = b) : f_ok Y 3 pc 1 b c z t := f_g3 fun hi k => e_lload_n hdg (by rw [hb]; exact hi) k
theorem f_g4 (row : ∀ {sh : Nat → Nat × Nat} {rm : Nat × Nat × Nat} {ls st : List e_V} {g : e_G} {cs : Nat × Nat} {Q : Option e_V → e_G → Prop} {x : Int}, ls[b]? = some (.inr (.inr (.inl x))) → 0 ≤ x → e_T sh Y rm (pc + a) ls (.inr (.inr (.inl x)) :: st) g cs Q → e_T sh Y rm pc ls st g cs Q) : f_ok Y 4 pc a b c z t := by
  intro sh t0 rm cs Q K ls st M H h
  replace h : f_s4 K pc a b c z t ls st M := h
  unfold f_s4 at h
  split at h
  · rename_i q hx
    exact row (f_lk hx) (Int.natCast_nonneg _) (H.go h (f_tvs_mk (f_tvs_at H.2.2.2.1 hx) H.st))
  · exact h.elim
theorem f_aload (hdg : decode Y.2.1 pc = .ok (.aload b, 2)) : f_ok Y 4 pc 2 b c z t := f_g4 fun hi h0 k => e_aload hdg hi h0 k
theorem f_aload_n {n : Fin 4} (hdg : decode Y.2.1 pc = .ok (.aload_n n, 1)) (hb : (n : Nat) = b) : f_ok Y 4 pc 1 b c z t := f_g4 fun hi h0 k => e_aload_n hdg (by rw [hb]; exact hi) h0 k
/-- behind a store -/
theorem f_H.go1 {sh : Nat → Nat × Nat} {t : Nat} {rm : Nat × Nat × Nat} {cs : Nat × Nat} {Q : Option e_V → e_G → Prop} {K : f_Kt} {ls st st' : List f_V} {M : e_M} {i j p : Nat} {v : f_V} (H : f_H sh t Y rm cs Q K ls st M) (h : K j p (f_l1 ls i v) st' M) (hv : f_tv sh t v) (hs : f_tvs sh t st') : e_T sh Y rm p (e_s1 (ls.map f_ev) i (f_ev v)) (st'.map f_ev) (M, t) cs Q := by
  rw [← f_l1_ev]
  exact H.2.2.2.2.2.2.2 j p _ st' M h (f_tvs_l1 hv H.2.2.2.1) hs (by rw [f_l1_len]; exact H.2.2.2.2.2.1) H.2.2.2.2.2.2.1
theorem f_H.go2 {sh : Nat → Nat × Nat} {t : Nat} {rm : Nat × Nat × Nat} {cs : Nat × Nat} {Q : Option e_V → e_G → Prop} {K : f_Kt} {ls st st' : List f_V} {M : e_M} {i j p : Nat} {v : f_V} (H : f_H sh t Y rm cs Q K ls st M) (h : K j p (f_l2 ls i v) st' M) (hv : f_tv sh t v) (hs : f_tvs sh t st') : e_T sh Y rm p (e_s2 (ls.map f_ev) i (f_ev v)) (st'.map f_ev) (M, t) cs Q := by
  rw [← f_l2_ev]
  exact H.2.2.2.2.2.2.2 j p _ st' M h (f_tvs_l2 hv H.2.2.2.1) hs (by rw [f_l2_len]; exact H.2.2.2.2.2.1) H.2.2.2.2.2.2.1
theorem f_istore (hdg : decode Y.2.1 pc = .ok (.istore b, 2)) (hi : b < Y.2.2.1) : f_ok Y 5 pc 2 b c z t := by
  intro sh t0 rm cs Q K ls st M H h
  replace h : f_s5 K pc 2 b c z t ls st M := h
  replace h := f_eI_b h
  obtain ⟨x, r, rfl, h⟩ := h
  rw [f_l1k_eq] at h
  exact e_istore hdg hi (H.go1 (v := .inl x) h trivial (f_tvs_cons H.st).2)
theorem f_istore_n {n : Fin 4} (hdg : decode Y.2.1 pc = .ok (.istore_n n, 1)) (hb : (n : Nat) = b) (hi : b < Y.2.2.1) : f_ok Y 5 pc 1 b c z t := by
  intro sh t0 rm cs Q K ls st M H h
  replace h : f_s5 K pc 1 b c z t ls st M := h
  replace h := f_eI_b h
  obtain ⟨x, r, rfl, h⟩ := h
  rw [f_l1k_eq] at h
  subst hb
  exact e_istore_n hdg hi (H.go1 (v := .inl x) h trivial (f_tvs_cons H.st).2)
theorem f_lstore (hdg : decode Y.2.1 pc = .ok (.lstore b, 2)) (hi : b + 1 < Y.2.2.1) : f_ok Y 6 pc 2 b c z t := by
  intro sh t0 rm cs Q K ls st M H h
  replace h : f_s6 K pc 2 b c z t ls st M := h
  replace h := f_eL_b h
  obtain ⟨x, r, rfl, h⟩ := h
  rw [f_l2k_eq] at h
  exact e_lstore hdg hi (H.go2 (v := .inr (.inl x)) h trivial (f_tvs_cons H.st).2)
theorem f_lstore_n {n : Fin 4} (hdg : decode Y.2.1 pc = .ok (.lstore_n n, 1)) (hb : (n : Nat) = b) (hi : b + 1 < Y.2.2.1) : f_ok Y 6 pc 1 b c z t := by
  intro sh t0 rm cs Q K ls st M H h
  replace h : f_s6 K pc 1 b c z t ls st M := h
  replace h := f_eL_b h
  obtain ⟨x, r, rfl, h⟩ := h
  rw [f_l2k_eq] at h
  subst hb
  exact e_lstore_n hdg hi (H.go2 (v := .inr (.inl x)) h trivial (f_tvs_cons H.st).2)
theorem f_astore (hdg : decode Y.2.1 pc = .ok (.astore b, 2)) (hi : b < Y.2.2.1) : f_ok Y 7 pc 2 b c z t := by
  intro sh t0 rm cs Q K ls st M H h
  replace h : f_s7 K pc 2 b c z t ls st M := h
  replace h := f_eA_b h
  obtain ⟨q, r, rfl, h⟩ := h
  rw [f_l1k_eq] at h
  exact e_astore hdg hi (Int.natCast_nonneg _) (H.go1 (v := .inr (.inr (.inl q))) h (f_tvs_cons H.st).1 (f_tvs_cons H.st).2)
theorem f_astore_n {n : Fin 4} (hdg : decode Y.2.1 pc = .ok (.astore_n n, 1)) (hb : (n : Nat) = b) (hi : b < Y.2.2.1) : f_ok Y 7 pc 1 b c z t := by
  intro sh t0 rm cs Q K ls st M H h
  replace h : f_s7 K pc 1 b c z t ls st M := h
  replace h := f_eA_b h
  obtain ⟨q, r, rfl, h⟩ := h
  rw [f_l1k_eq] at h
  subst hb
  exact e_astore_n hdg hi (Int.natCast_nonneg _) (H.go1 (v := .inr (.inr (.inl q))) h (f_tvs_cons H.st).1 (f_tvs_cons H.st).2)
theorem f_g8 (hdg : decode Y.2.1 pc = .ok (.iinc b z, 3)) (hn : e_i32 z) : f_ok Y 8 pc a b c z t := by
  intro sh t0 rm cs Q K ls st M H h
  replace h : f_s8 K pc a b c z t ls st M := h
  unfold f_s8 at h
  split at h
  · rename_i x hx
    rw [f_l1k_eq] at h
    exact e_iinc hdg (f_lk hx) hn (by rw [List.length_map]; exact H.2.2.2.2.2.1) (H.go1 (v := .inl (e_w32 (x + z))) h trivial H.st)
  · exact h.elim
/-- two ints, a number out of them -/
theorem f_g9 (row : ∀ {sh : Nat → Nat × Nat} {rm : Nat × Nat × Nat} {ls st : List e_V} {g : e_G} {cs : Nat × Nat} {Q : Option e_V → e_G → Prop} {x y : Int}, f_dv b y True → e_T sh Y rm (pc + 1) ls (.inl (f_bf b x y) :: st) g cs Q → e_T sh Y rm pc ls (.inl y :: .inl x :: st) g cs Q) : f_ok Y 9 pc a b c z t := by
  intro sh t0 rm cs Q K ls st M H h
  replace h : f_s9 K pc a b c z t ls st M := h
  replace h := f_eI_b h
  obtain ⟨y, r, rfl, h⟩ := h
  replace h := f_eI_b h
  obtain ⟨x, r, rfl, h⟩ := h
  have hs := (f_tvs_cons (f_tvs_cons H.st).2).2
  have k : f_dv b y True ∧ K 0 (pc + 1) ls (.inl (f_bf b x y) :: r) M := by
    rcases b with _ | _ | _ | _ | _ | b
    · exact ⟨trivial, h⟩
    · exact ⟨trivial, h⟩
    · exact ⟨trivial, h⟩
    · obtain ⟨h1, h2⟩ := h; exact ⟨⟨h1, trivial⟩, h2⟩
    · obtain ⟨h1, h2⟩ := h; exact ⟨⟨h1, trivial⟩, h2⟩
    · exact ⟨trivial, h⟩
  exact row k.1 (H.go k.2 (f_tvs_mk trivial hs))
theorem f_iadd (hdg : decode Y.2.1 pc = .ok (.iadd, 1)) : f_ok Y 9 pc a 0 c z t := f_g9 fun _ k => e_iadd hdg k
theorem f_isub (hdg : decode Y.2.1 pc = .ok (.isub, 1)) : f_ok Y 9 pc a 1 c z t := f_g9 fun _ k => e_isub hdg k
theorem f_imul (hdg : decode Y.2.1 pc = .ok (.imul, 1)) : f_ok Y 9 pc a 2 c z t := f_g9 fun _ k => e_imul hdg k
theorem f_idiv (hdg : decode Y.2.1 pc = .ok (.idiv, 1)) : f_ok Y 9 pc a 3 c z t := f_g9 fun h k => e_idiv hdg h.1 k
theorem f_irem (hdg : decode Y.2.1 pc = .ok (.irem, 1)) : f_ok Y 9 pc a 4 c z t := f_g9 fun h k => e_irem hdg h.1 k
theorem f_iand (hdg : decode Y.2.1 pc = .ok (.iand, 1)) : f_ok Y 9 pc a 5 c z t := f_g9 fun _ k => e_iand hdg k
theorem f_ior (hdg : decode Y.2.1 pc = .ok (.ior, 1)) : f_ok Y 9 pc a 6 c z t := f_g9 fun _ k => e_ior hdg k
theorem f_ixor (hdg : decode Y.2.1 pc = .ok (.ixor, 1)) : f_ok Y 9 pc a 7 c z t := f_g9 fun _ k => e_ixor hdg k
theorem f_ishl (hdg : decode Y.2.1 pc = .ok (.ishl, 1)) : f_ok Y 9 pc a 8 c z t := f_g9 fun _ k => e_ishl hdg k
theorem f_ishr (hdg : decode Y.2.1 pc = .ok (.ishr, 1)) : f_ok Y 9 pc a 9 c z t := f_g9 fun _ k => e_ishr hdg k
theorem f_g10 (row : ∀ {sh : Nat → Nat × Nat} {rm : Nat × Nat × Nat} {ls st : List e_V} {g : e_G} {cs : Nat × Nat} {Q : Option e_V → e_G → Prop} {x y : Int}, f_dv b y True → e_T sh Y rm (pc + 1) ls (.inr (.inl (f_lf b x y)) :: st) g cs Q → e_T sh Y rm pc ls (.inr (.inl y) :: .inr (.inl x) :: st) g cs Q) : f_ok Y 10 pc a b c z t := by
  intro sh t0 rm cs Q K ls st M H h
  replace h : f_s10 K pc a b c z t ls st M := h
  replace h := f_eL_b h
  obtain ⟨y, r, rfl, h⟩ := h
  replace h := f_eL_b h
  obtain ⟨x, r, rfl, h⟩ := h
  have hs := (f_tvs_cons (f_tvs_cons H.st).2).2
  have k : f_dv b y True ∧ K 0 (pc + 1) ls (.inr (.inl (f_lf b x y)) :: r) M := by
    rcases b with _ | _ | _ | _ | _ | b
    · exact ⟨trivial, h⟩
    · exact ⟨trivial, h⟩
    · exact ⟨trivial, h⟩
    · obtain ⟨h1, h2⟩ := h; exact ⟨⟨h1, trivial⟩, h2⟩
    · obtain ⟨h1, h2⟩ := h; exact ⟨⟨h1, trivial⟩, h2⟩
    · exact ⟨trivial, h⟩
  exact row k.1 (H.go k.2 (f_tvs_mk trivial hs))
theorem f_ladd (hdg : decode Y.2.1 pc = .ok (.ladd, 1)) : f_ok Y 10 pc a 0 c z t := f_g10 fun _ k => e_ladd hdg k
theorem f_lsub (hdg : decode Y.2.1 pc = .ok (.lsub, 1)) : f_ok Y 10 pc a 1 c z t := f_g10 fun _ k => e_lsub hdg k
theorem f_lmul (hdg : decode Y.2.1 pc = .ok (.lmul, 1)) : f_ok Y 10 pc a 2 c z t := f_g10 fun _ k => e_lmul hdg k
theorem f_ldiv (hdg : decode Y.2.1 pc = .ok (.ldiv, 1)) : f_ok Y 10 pc a 3 c z t := f_g10 fun h k => e_ldiv hdg h.1 k
theorem f_lrem (hdg : decode Y.2.1 pc = .ok (.lrem, 1)) : f_ok Y 10 pc a 4 c z t := f_g10 fun h k => e_lrem hdg h.1 k
theorem f_land (hdg : decode Y.2.1 pc = .ok (.land, 1)) : f_ok Y 10 pc a 5 c z t := f_g10 fun _ k => e_land hdg k
theorem f_lor (hdg : decode Y.2.1 pc = .ok (.lor, 1)) : f_ok Y 10 pc a 6 c z t := f_g10 fun _ k => e_lor hdg k
theorem f_lxor (hdg : decode Y.2.1 pc = .ok (.lxor, 1)) : f_ok Y 10 pc a 7 c z t := f_g10 fun _ k => e_lxor hdg k
theorem f_g11 (row : ∀ {sh : Nat → Nat × Nat} {rm : Nat × Nat × Nat} {ls st : List e_V} {g : e_G} {cs : Nat × Nat} {Q : Option e_V → e_G → Prop} {x y : Int}, e_T sh Y rm (pc + 1) ls (.inr (.inl (f_hf b x y)) :: st) g cs Q → e_T sh Y rm pc ls (.inl y :: .inr (.inl x) :: st) g cs Q) : f_ok Y 11 pc a b c z t := by
  intro sh t0 rm cs Q K ls st M H h
  replace h : f_s11 K pc a b c z t ls st M := h
  replace h := f_eI_b h
  obtain ⟨y, r, rfl, h⟩ := h
  replace h := f_eL_b h
  obtain ⟨x, r, rfl, h⟩ := h
  exact row (H.go h (f_tvs_mk trivial (f_tvs_cons (f_tvs_cons H.st).2).2))
theorem f_lshl (hdg : decode Y.2.1 pc = .ok (.lshl, 1)) : f_ok Y 11 pc a 0 c z t := f_g11 fun k => e_lshl hdg k
theorem f_lshr (hdg : decode Y.2.1 pc = .ok (.lshr, 1)) : f_ok Y 11 pc a 1 c z t := f_g11 fun k => e_lshr hdg k
theorem f_lushr (hdg : decode Y.2.1 pc = .ok (.lushr, 1)) : f_ok Y 11 pc a 2 c z t := f_g11 fun k => e_lushr hdg k
theorem f_ineg (hdg : decode Y.2.1 pc = .ok (.ineg, 1)) : f_ok Y 12 pc a 0 c z t := by
  intro sh t0 rm cs Q K ls st M H h
  replace h : f_s12 K pc a 0 c z t ls st M := h
  replace h := f_eI_b h
  obtain ⟨x, r, rfl, h⟩ := h
  exact e_ineg_ hdg (H.go h (f_tvs_mk trivial (f_tvs_cons H.st).2))
theorem f_i2b (hdg : decode Y.2.1 pc = .ok (.i2b, 1)) : f_ok Y 12 pc a 1 c z t := by
  intro sh t0 rm cs Q K ls st M H h
  replace h : f_s12 K pc a 1 c z t ls st M := h
  replace h := f_eI_b h
  obtain ⟨x, r, rfl, h⟩ := h
  exact e_i2b_ hdg (H.go h (f_tvs_mk trivial (f_tvs_cons H.st).2))
theorem f_g13 (hdg : decode Y.2.1 pc = .ok (.lneg, 1)) : f_ok Y 13 pc a b c z t := by
  intro sh t0 rm cs Q K ls st M H h
  replace h : f_s13 K pc a b c z t ls st M := h
  replace h := f_eL_b h
  obtain ⟨x, r, rfl, h⟩ := h
  exact e_lneg_ hdg (H.go h (f_tvs_mk trivial (f_tvs_cons H.st).2))
theorem f_g14 (hdg : decode Y.2.1 pc = .ok (.i2l, 1)) : f_ok Y 14 pc a b c z t := by
  intro sh t0 rm cs Q K ls st M H h
  replace h : f_s14 K pc a b c z t ls st M := h
  replace h := f_eI_b h
  obtain ⟨x, r, rfl, h⟩ := h
  exact e_i2l_ hdg (H.go h (f_tvs_mk trivial (f_tvs_cons H.st).2))
theorem f_g15 (hdg : decode Y.2.1 pc = .ok (.l2i, 1)) : f_ok Y 15 pc a b c z t := by
  intro sh t0 rm cs Q K ls st M H h
  replace h : f_s15 K pc a b c z t ls st M := h
  replace h := f_eL_b h
  obtain ⟨x, r, rfl, h⟩ := h
  exact e_l2i_ hdg (H.go h (f_tvs_mk trivial (f_tvs_cons H.st).2))
theorem f_c_b {c : Bool} {P : Prop} (h : cond c P False) : c = true ∧ P := by
  cases c with
  | true => exact ⟨rfl, h⟩
  | false => exact h.elim
theorem f_cat_le {st : List f_V} (h : Nat.ble (f_cat st) 8 = true) : e_cat (st.map f_ev) ≤ 8 := by rw [f_cat_ev]; exact Nat.le_of_ble_eq_true h
theorem f_abs (hdg : decode Y.2.1 pc = .ok (.invokestatic idx, 3)) (hl : Cond.methodLink Y.1.cls idx Lib.Math.abs.name ∈ e_gd) (hs : Cond.static Lib.Math.abs.name ∈ e_gd) (hi : Cond.initialized "java/lang/Math" ∈ e_gd) (hcd : Cond.code Lib.Math.abs.name Lib.Math.abs.code 1 (some .int) ∈ e_gd) : f_ok Y 16 pc a b c z t := by
  intro sh t0 rm cs Q K ls st M H h
  replace h : f_s16 K pc a b c z t ls st M := h
  replace h := f_eI_b h
  obtain ⟨x, r, rfl, h⟩ := h
  replace h := f_c_b h
  obtain ⟨hc, h⟩ := h
  exact e_mabs hdg hl hs hi hcd (by have := H.1; omega) (f_cat_le hc) H.2.1 H.2.2.1 (H.go h (f_tvs_mk trivial (f_tvs_cons H.st).2))
theorem f_g17 (row : ∀ {sh : Nat → Nat × Nat} {rm : Nat × Nat × Nat} {ls st : List e_V} {g : e_G} {cs : Nat × Nat} {Q : Option e_V → e_G → Prop} {x : Int}, f_br b x 0 (e_T sh Y rm a ls st g cs Q) (e_T sh Y rm (pc + 3) ls st g cs Q) → e_T sh Y rm pc ls (.inl x :: st) g cs Q) : f_ok Y 17 pc a b c z t := by
  intro sh t0 rm cs Q K ls st M H h
  replace h : f_s17 K pc a b c z t ls st M := h
  replace h := f_eI_b h
  obtain ⟨x, r, rfl, h⟩ := h
  have hs := (f_tvs_cons H.st).2
  refine row ?_
  rcases b with _ | _ | _ | _ | _ | b <;> (obtain ⟨h1, h2⟩ := h; exact ⟨fun k => H.go (h1 k) hs, fun k => H.go (h2 k) hs⟩)
theorem f_if_eq {off : Int} (hdg : decode Y.2.1 pc = .ok (.ifCond .eq off, 3)) (ht : (pc : Int) + off = (a : Int)) : f_ok Y 17 pc a 0 c z t := f_g17 fun k => e_if_eq hdg ht k.1 k.2
theorem f_if_ne {off : Int} (hdg : decode Y.2.1 pc = .ok (.ifCond .ne off, 3)) (ht : (pc : Int) + off = (a : Int)) : f_ok Y 17 pc a 1 c z t := f_g17 fun k => e_if_ne hdg ht k.1 k.2
theorem f_if_lt {off : Int} (hdg : decode Y.2.1 pc = .ok (.ifCond .lt off, 3)) (ht : (pc : Int) + off = (a : Int)) : f_ok Y 17 pc a 2 c z t := f_g17 fun k => e_if_lt hdg ht k.1 k.2
theorem f_if_ge {off : Int} (hdg : decode Y.2.1 pc = .ok (.ifCond .ge off, 3)) (ht : (pc : Int) + off = (a : Int)) : f_ok Y 17 pc a 3 c z t := f_g17 fun k => e_if_ge hdg ht k.1 k.2
theorem f_if_gt {off : Int} (hdg : decode Y.2.1 pc = .ok (.ifCond .gt off, 3)) (ht : (pc : Int) + off = (a : Int)) : f_ok Y 17 pc a 4 c z t := f_g17 fun k => e_if_gt hdg ht k.1 k.2
theorem f_if_le {off : Int} (hdg : decode Y.2.1 pc = .ok (.ifCond .le off, 3)) (ht : (pc : Int) + off = (a : Int)) : f_ok Y 17 pc a 5 c z t := f_g17 fun k => e_if_le hdg ht k.1 k.2
theorem f_g18 (row : ∀ {sh : Nat → Nat × Nat} {rm : Nat × Nat × Nat} {ls st : List e_V} {g : e_G} {cs : Nat × Nat} {Q : Option e_V → e_G → Prop} {x y : Int}, f_br b x y (e_T sh Y rm a ls st g cs Q) (e_T sh Y rm (pc + 3) ls st g cs Q) → e_T sh Y rm pc ls (.inl y :: .inl x :: st) g cs Q) : f_ok Y 18 pc a b c z t := by
  intro sh t0 rm cs Q K ls st M H h
  replace h : f_s18 K pc a b c z t ls st M := h
  replace h := f_eI_b h
  obtain ⟨y, r, rfl, h⟩ := h
  replace h := f_eI_b h
  obtain ⟨x, r, rfl, h⟩ := h
  have hs := (f_tvs_cons (f_tvs_cons H.st).2).2
  refine row ?_
  rcases b with _ | _ | _ | _ | _ | b <;> (obtain ⟨h1, h2⟩ := h; exact ⟨fun k => H.go (h1 k) hs, fun k => H.go (h2 k) hs⟩)
theorem f_icmp_eq {off : Int} (hdg : decode Y.2.1 pc = .ok (.if_icmp .eq off, 3)) (ht : (pc : Int) + off = (a : Int)) : f_ok Y 18 pc a 0 c z t := f_g18 fun k => e_icmp_eq hdg ht k.1 k.2
theorem f_icmp_ne {off : Int} (hdg : decode Y.2.1 pc = .ok (.if_icmp .ne off, 3)) (ht : (pc : Int) + off = (a : Int)) : f_ok Y 18 pc a 1 c z t := f_g18 fun k => e_icmp_ne hdg ht k.1 k.2
theorem f_icmp_lt {off : Int} (hdg : decode Y.2.1 pc = .ok (.if_icmp .lt off, 3)) (ht : (pc : Int) + off = (a : Int)) : f_ok Y 18 pc a 2 c z t := f_g18 fun k => e_icmp_lt hdg ht k.1 k.2
theorem f_icmp_ge {off : Int} (hdg : decode Y.2.1 pc = .ok (.if_icmp .ge off, 3)) (ht : (pc : Int) + off = (a : Int)) : f_ok Y 18 pc a 3 c z t := f_g18 fun k => e_icmp_ge hdg ht k.1 k.2
theorem f_icmp_gt {off : Int} (hdg : decode Y.2.1 pc = .ok (.if_icmp .gt off, 3)) (ht : (pc : Int) + off = (a : Int)) : f_ok Y 18 pc a 4 c z t := f_g18 fun k => e_icmp_gt hdg ht k.1 k.2
theorem f_icmp_le {off : Int} (hdg : decode Y.2.1 pc = .ok (.if_icmp .le off, 3)) (ht : (pc : Int) + off = (a : Int)) : f_ok Y 18 pc a 5 c z t := f_g18 fun k => e_icmp_le hdg ht k.1 k.2
theorem f_g32 (row : ∀ {sh : Nat → Nat × Nat} {rm : Nat × Nat × Nat} {ls st : List e_V} {g : e_G} {cs : Nat × Nat} {Q : Option e_V → e_G → Prop} {x y : Int}, f_br b x y (e_T sh Y rm a ls st g cs Q) (e_T sh Y rm (pc + 4) ls st g cs Q) → e_T sh Y rm pc ls (.inr (.inl y) :: .inr (.inl x) :: st) g cs Q) : f_ok Y 32 pc a b c z t := by
  intro sh t0 rm cs Q K ls st M H h
  replace h : f_s32 K pc a b c z t ls st M := h
  replace h := f_eL_b h
  obtain ⟨y, r, rfl, h⟩ := h
  replace h := f_eL_b h
  obtain ⟨x, r, rfl, h⟩ := h
  have hs := (f_tvs_cons (f_tvs_cons H.st).2).2
  refine row ?_
  rcases b with _ | _ | _ | _ | _ | b <;> (obtain ⟨h1, h2⟩ := h; exact ⟨fun k => H.go (h1 k) hs, fun k => H.go (h2 k) hs⟩)
theorem f_lif_eq {off : Int} (hd1 : decode Y.2.1 pc = .ok (.lcmp, 1)) (hdg : decode Y.2.1 (pc + 1) = .ok (.ifCond .eq off, 3)) (ht : ((pc + 1 : Nat) : Int) + off = (a : Int)) : f_ok Y 32 pc a 0 c z t := f_g32 fun k => e_lif_eq hd1 hdg ht k.1 k.2
theorem f_lif_ne {off : Int} (hd1 : decode Y.2.1 pc = .ok (.lcmp, 1)) (hdg : decode Y.2.1 (pc + 1) = .ok (.ifCond .ne off, 3)) (ht : ((pc + 1 : Nat) : Int) + off = (a : Int)) : f_ok Y 32 pc a 1 c z t := f_g32 fun k => e_lif_ne hd1 hdg ht k.1 k.2
theorem f_lif_lt {off : Int} (hd1 : decode Y.2.1 pc = .ok (.lcmp, 1)) (hdg : decode Y.2.1 (pc + 1) = .ok (.ifCond .lt off, 3)) (ht : ((pc + 1 : Nat) : Int) + off = (a : Int)) : f_ok Y 32 pc a 2 c z t := f_g32 fun k => e_lif_lt hd1 hdg ht k.1 k.2
theorem f_lif_ge {off : Int} (hd1 : decode Y.2.1 pc = .ok (.lcmp, 1)) (hdg : decode Y.2.1 (pc + 1) = .ok (.ifCond .ge off, 3)) (ht : ((pc + 1 : Nat) : Int) + off = (a : Int)) : f_ok Y 32 pc a 3 c z t := f_g32 fun k => e_lif_ge hd1 hdg ht k.1 k.2
theorem f_lif_gt {off : Int} (hd1 : decode Y.2.1 pc = .ok (.lcmp, 1)) (hdg : decode Y.2.1 (pc + 1) = .ok (.ifCond .gt off, 3)) (ht : ((pc + 1 : Nat) : Int) + off = (a : Int)) : f_ok Y 32 pc a 4 c z t := f_g32 fun k => e_lif_gt hd1 hdg ht k.1 k.2
theorem f_lif_le {off : Int} (hd1 : decode Y.2.1 pc = .ok (.lcmp, 1)) (hdg : decode Y.2.1 (pc + 1) = .ok (.ifCond .le off, 3)) (ht : ((pc + 1 : Nat) : Int) + off = (a : Int)) : f_ok Y 32 pc a 5 c z t := f_g32 fun k => e_lif_le hd1 hdg ht k.1 k.2
theorem f_g19 {off : Int} (hdg : decode Y.2.1 pc = .ok (.goto off, 3)) (ht : (pc : Int) + off = (a : Int)) : f_ok Y 19 pc a b c z t := fun _ _ _ _ _ _ _ _ _ H h => e_goto hdg ht (H.go h H.st)
theorem f_g20 (hdg : decode Y.2.1 pc = .ok (.dup, 1)) : f_ok Y 20 pc a b c z t := by
  intro sh t0 rm cs Q K ls st M H h
  replace h : f_s20 K pc a b c z t ls st M := h
  replace h := f_eV_b h
  obtain ⟨v, r, rfl, h1, h2, h⟩ := h
  obtain ⟨k1, k2⟩ := f_tvs_cons H.st
  exact e_dup hdg h1 (H.go h (f_tvs_mk k1 (f_tvs_mk k1 k2)))
theorem f_g21 (hdg : decode Y.2.1 pc = .ok (.pop, 1)) : f_ok Y 21 pc a b c z t := by
  intro sh t0 rm cs Q K ls st M H h
  replace h : f_s21 K pc a b c z t ls st M := h
  replace h := f_eV_b h
  obtain ⟨v, r, rfl, h1, h2, h⟩ := h
  exact e_pop hdg h1 (H.go h (f_tvs_cons H.st).2)
theorem f_g22 (hdg : decode Y.2.1 pc = .ok (.pop2, 1)) : f_ok Y 22 pc a b c z t := by
  intro sh t0 rm cs Q K ls st M H h
  replace h : f_s22 K pc a b c z t ls st M := h
  replace h := f_eL_b h
  obtain ⟨x, r, rfl, h⟩ := h
  exact e_pop2 hdg (H.go h (f_tvs_cons H.st).2)
theorem f_g23 (hdg : decode Y.2.1 pc = .ok (.dup2, 1)) : f_ok Y 23 pc a b c z t := by
  intro sh t0 rm cs Q K ls st M H h
  replace h : f_s23 K pc a b c z t ls st M := h
  replace h := f_eV_b h
  obtain ⟨v, r, rfl, h1, h2, h⟩ := h
  replace h := f_eV_b h
  obtain ⟨u, r, rfl, u1, u2, h⟩ := h
  obtain ⟨k1, k2⟩ := f_tvs_cons H.st
  obtain ⟨k3, k4⟩ := f_tvs_cons k2
  exact e_dup2 hdg h1 u1 (H.go h (f_tvs_mk k1 (f_tvs_mk k3 (f_tvs_mk k1 (f_tvs_mk k3 k4)))))
theorem f_sw_e {P : Nat → Nat → Prop} {P2 : Nat → Prop} {dp dj : Nat} {x : Int} (hP : ∀ p j, P p j → P2 p) : ∀ {l : List (Int × Nat × Nat)}, f_sw P dp dj x l → e_sw P2 dp x (l.map fun q => (q.1, q.2.1))
  | [], h => hP _ _ h
  | (k, p, j) :: r, h => ⟨fun e => hP _ _ (h.1 e), fun e => f_sw_e hP (h.2 e)⟩
theorem f_g24 (row : ∀ {sh : Nat → Nat × Nat} {rm : Nat × Nat × Nat} {ls st : List e_V} {g : e_G} {cs : Nat × Nat} {Q : Option e_V → e_G → Prop} {x : Int}, e_sw (fun t => e_T sh Y rm t ls st g cs Q) a x (t.map fun q => (q.1, q.2.1)) → e_T sh Y rm pc ls (.inl x :: st) g cs Q) : f_ok Y 24 pc a b c z t := by
  intro sh t0 rm cs Q K ls st M H h
  replace h : f_s24 K pc a b c z t ls st M := h
  replace h := f_eI_b h
  obtain ⟨x, r, rfl, h⟩ := h
  exact row (f_sw_e (fun p j k => H.go k (f_tvs_cons H.st).2) h)
theorem f_tsw {dflt lo hi : Int} {offs : Array Int} {len : Nat} (hdg : decode Y.2.1 pc = .ok (.tableswitch dflt lo hi offs, len)) (hd : (pc : Int) + dflt = (a : Int)) (hn : lo + offs.toList.length = hi + 1) (hz : ∀ o ∈ offs.toList, 0 ≤ (pc : Int) + o) (hl : e_tab pc lo offs.toList = t.map fun q => (q.1, q.2.1)) : f_ok Y 24 pc a b c z t := f_g24 fun k => e_tsw hdg hd hn hz hl k
theorem f_lsw {dflt : Int} {ps : Array (Int × Int)} {len : Nat} (hdg : decode Y.2.1 pc = .ok (.lookupswitch dflt ps, len)) (hp : (ps.toList.zip (ps.toList.drop 1)).all (fun (a, next) => a.1 < next.1) = true) (hd : (pc : Int) + dflt = (a : Int)) (hz : ∀ q ∈ ps.toList, 0 ≤ (pc : Int) + q.2) (hl : e_lkp pc ps.toList = t.map fun q => (q.1, q.2.1)) : f_ok Y 24 pc a b c z t := f_g24 fun k => e_lsw hdg hp hd hz hl k
theorem f_an {p q : Bool} (h : (p && q) = true) : p = true ∧ q = true := by rw [Bool.and_eq_true] at h; exact h
theorem f_bq {m n : Nat} (h : Nat.beq m n = true) : m = n := Nat.eq_of_beq_eq_true h
theorem f_bl {m n : Nat} (h : Nat.blt m n = true) : m < n := Nat.le_of_ble_eq_true h
/-- an object's reference -/
theorem f_rf_lo {sh : Nat → Nat × Nat} {t k n q : Nat} (h : f_rf sh t (k, n, q)) (hk : k < 100) : sh q = (k, n) ∧ q < t := by
  rcases h with h | h | h
  · exact h.2
  · have := h.1; dsimp only at this; omega
  · have := h.1; dsimp only at this; omega
theorem f_td_b {t : List (Int × Nat × Nat)} {k : Nat → Nat → Nat → Nat → Prop} (h : f_td t k) : ∃ z1 kd n z2 m o r, t = (z1, kd, n) :: (z2, m, o) :: r ∧ k m kd n o := by
  unfold f_td at h
  split at h
  · exact ⟨_, _, _, _, _, _, _, rfl, h⟩
  · exact h.elim
theorem f_vI {t : Nat} {x : Int} (h3 : ¬ t = 3) (h4 : ¬ t = 4) : e_val t x = .inl x := by unfold e_val; rw [if_neg h3, if_neg h4]
theorem f_vL {x : Int} : e_val 3 x = .inr (.inl x) := rfl
theorem f_vA {x : Int} : e_val 4 x = .inr (.inr (.inl x)) := rfl
theorem f_getf (hdg : decode Y.2.1 pc = .ok (.getfield idx, 3)) (hf : e_FL Y.1.cls idx a b) (ht : e_tg a b = c) (h3 : ¬ c = 3) (h4 : ¬ c = 4) (ha : a < 13) : f_ok Y 25 pc a b c z t := by
  intro sh t0 rm cs Q K ls st M H h
  replace h : f_s25 K pc a b c z t ls st M := h
  replace h := f_eA_b h
  obtain ⟨q, r, rfl, h⟩ := h
  obtain ⟨kd, n, q⟩ := q
  replace h := f_c_b h
  obtain ⟨hc, h⟩ := h
  obtain rfl := f_bq hc
  obtain ⟨k1, k2⟩ := f_tvs_cons H.st
  have k3 := f_rf_lo k1 (by omega)
  have h : K 0 (pc + 3) ls (.inl (M q b) :: r) M := by
    revert h
    dsimp only
    split
    · omega
    · omega
    · exact id
  refine e_getf (a := (q : Int)) hdg hf (Int.natCast_nonneg _) (by rw [Int.toNat_natCast, k3.1]) ?_
  rw [ht, f_vI h3 h4, Int.toNat_natCast]
  exact H.go h (f_tvs_mk trivial k2)
theorem f_getL (hdg : decode Y.2.1 pc = .ok (.getfield idx, 3)) (hf : e_FL Y.1.cls idx a b) (ht : e_tg a b = 3) (ha : a < 13) : f_ok Y 25 pc a b 3 z t := by
  intro sh t0 rm cs Q K ls st M H h
  replace h : f_s25 K pc a b 3 z t ls st M := h
  replace h := f_eA_b h
  obtain ⟨q, r, rfl, h⟩ := h
  obtain ⟨kd, n, q⟩ := q
  replace h := f_c_b h
  obtain ⟨hc, h⟩ := h
  obtain rfl := f_bq hc
  obtain ⟨k1, k2⟩ := f_tvs_cons H.st
  have k3 := f_rf_lo k1 (by omega)
  refine e_getf (a := (q : Int)) hdg hf (Int.natCast_nonneg _) (by rw [Int.toNat_natCast, k3.1]) ?_
  rw [ht, f_vL, Int.toNat_natCast]
  exact H.go h (f_tvs_mk trivial k2)
theorem f_getA {k2 n2 m o : Nat} {z1 z2 : Int} (hdg : decode Y.2.1 pc = .ok (.getfield idx, 3)) (hf : e_FL Y.1.cls idx a b) (ht : e_tg a b = 4) (ha : a < 13) (hb : b < e_num a) (hd : f_ft a b = (m, k2, n2, o)) (hk : k2 < 100) : f_ok Y 25 pc a b 4 z [(z1, k2, n2), (z2, m, o)] := by
  intro sh t0 rm cs Q K ls st M H h
  replace h : f_s25 K pc a b 4 z [(z1, k2, n2), (z2, m, o)] ls st M := h
  replace h := f_eA_b h
  obtain ⟨q, r, rfl, h⟩ := h
  obtain ⟨kd, n, q⟩ := q
  replace h := f_c_b h
  obtain ⟨hc, h⟩ := h
  obtain rfl := f_bq hc
  obtain ⟨k1, k2'⟩ := f_tvs_cons H.st
  have k3 := f_rf_lo k1 (by omega)
  obtain ⟨u1, u2, u3⟩ := H.2.2.2.2.2.2.1
  have k4 := (u2 q k3.2).1 b (by rw [k3.1]; exact ha) (by rw [k3.1]; exact hb) (by rw [k3.1]; exact ht)
  rw [k3.1] at k4
  dsimp only at k4
  rw [hd] at k4
  refine e_getf (a := (q : Int)) hdg hf (Int.natCast_nonneg _) (by rw [Int.toNat_natCast, k3.1]) ?_
  rw [ht, f_vA, Int.toNat_natCast]
  show e_T sh Y rm (pc + 3) (ls.map f_ev) (.inr (.inr (.inl (M q b))) :: r.map f_ev) (M, t0) cs Q
  cases m with
  | zero =>
    have h : K 0 (pc + 3) ls (.inr (.inr (.inl (k2, n2, (M q b).toNat))) :: r) M := h
    obtain ⟨c1, c2, c3⟩ : 0 ≤ M q b ∧ sh (M q b).toNat = (k2, n2) ∧ (M q b).toNat < t0 := k4
    have e := H.go h (f_tvs_mk (show f_rf sh t0 (k2, n2, (M q b).toNat) from Or.inl ⟨hk, c2, c3⟩) k2')
    rw [List.map_cons] at e
    rw [show f_ev (.inr (.inr (.inl (k2, n2, (M q b).toNat)))) = .inr (.inr (.inl (M q b))) from by show (.inr (.inr (.inl (((M q b).toNat : Nat) : Int))) : e_V) = _; rw [Int.toNat_of_nonneg c1]] at e
    exact e
  | succ m =>
    cases m with
    | zero =>
      have h : K 0 (pc + 3) ls (.inr (.inr (.inl (k2, n2, q + o))) :: r) M := h
      obtain ⟨c1, c2, c3⟩ : M q b = ((q + o : Nat) : Int) ∧ sh (q + o) = (k2, n2) ∧ q + o < t0 := k4
      have e := H.go h (f_tvs_mk (show f_rf sh t0 (k2, n2, q + o) from Or.inl ⟨hk, c2, c3⟩) k2')
      rw [List.map_cons] at e
      rw [c1]
      exact e
    | succ m =>
      have h : K 0 (pc + 3) ls (.inr (.inr (.inl (k2, n2, o))) :: r) M := h
      obtain ⟨c1, c2, c3⟩ : M q b = ((o : Nat) : Int) ∧ sh o = (k2, n2) ∧ o < t0 := k4
      have e := H.go h (f_tvs_mk (show f_rf sh t0 (k2, n2, o) from Or.inl ⟨hk, c2, c3⟩) k2')
      rw [List.map_cons] at e
      rw [c1]
      exact e
theorem e_up_eq {M : e_M} {q b : Nat} {v : Int} : e_up M q b v q b = v := by unfold e_up; rw [if_pos ⟨rfl, rfl⟩]
theorem e_up_ne {M : e_M} {q b a k : Nat} {v : Int} (h : ¬ (a = q ∧ k = b)) : e_up M q b v a k = M a k := by unfold e_up; rw [if_neg h]
theorem f_fc_congr {sh : Nat → Nat × Nat} {t : Nat} {M M' : e_M} {a k : Nat} {d : Nat × Nat × Nat × Nat} (e : M' a k = M a k) (h : f_fc sh t M a k d) : f_fc sh t M' a k d := by
  unfold f_fc at h ⊢
  rw [e]
  exact h
theorem f_Ty.put {sh : Nat → Nat × Nat} {M : e_M} {t q b : Nat} {v : Int} (h : f_Ty sh M t) (hq : q < t) (h1 : (sh q).1 < 13 → e_tg (sh q).1 b = 4 → f_fc sh t (e_up M q b v) q b (f_ft (sh q).1 b)) (h2 : 30 ≤ (sh q).1 → (sh q).1 < 43 → 0 ≤ v ∧ sh v.toNat = ((sh q).1 - 30, e_num ((sh q).1 - 30)) ∧ v.toNat < t) : f_Ty sh (e_up M q b v) t := by
  obtain ⟨u1, u2, u3⟩ := h
  refine ⟨u1, fun a ha => ⟨fun k c1 c2 c3 => ?_, fun k c1 c2 c3 => ?_⟩, fun j hj => ⟨(u3 j hj).1, fun k hk => ?_⟩⟩
  · by_cases e : a = q ∧ k = b
    · obtain ⟨rfl, rfl⟩ := e
      exact h1 c1 c3
    · exact f_fc_congr (e_up_ne e) ((u2 a ha).1 k c1 c2 c3)
  · by_cases e : a = q ∧ k = b
    · obtain ⟨rfl, rfl⟩ := e
      rw [e_up_eq]
      exact h2 c1 c2
    · rw [e_up_ne e]
      exact (u2 a ha).2 k c1 c2 c3
  · rw [e_up_ne (fun e => by omega)]
    exact (u3 j hj).2 k hk
/-- behind a store in the memory -/
theorem f_H.goM {sh : Nat → Nat × Nat} {t : Nat} {rm : Nat × Nat × Nat} {cs : Nat × Nat} {Q : Option e_V → e_G → Prop} {K : f_Kt} {ls st st' : List f_V} {M M2 : e_M} {j p : Nat} (H : f_H sh t Y rm cs Q K ls st M) (h : K j p ls st' M2) (hs : f_tvs sh t st') (hT : f_Ty sh M2 t) : e_T sh Y rm p (ls.map f_ev) (st'.map f_ev) (M2, t) cs Q :=
  H.2.2.2.2.2.2.2 j p ls st' M2 h H.2.2.2.1 hs H.2.2.2.2.2.1 hT
theorem f_putn (hdg : decode Y.2.1 pc = .ok (.putfield idx, 3)) (hf : e_FL Y.1.cls idx a b) (hfin : ∀ q, e_cl[a]? = some q → (q.2.1 b).2.2.2 = false) (ht : e_tg a b = c) (hc : c = 0 ∨ c = 1 ∨ c = 3) (ha : a < 13) : f_ok Y 26 pc a b c z t := by
  intro sh t0 rm cs Q K ls st M H h
  replace h : f_s26 K pc a b c z t ls st M := h
  have key : ∀ (x : Int) (kd n q : Nat) (r2 : List f_V) (v : f_V), st = v :: .inr (.inr (.inl (kd, n, q))) :: r2 → kd = a → f_ev v = e_val c x → (c = 1 → x = 0 ∨ x = 1) → (∀ M2, M2 = e_up M q b x → K 0 (pc + 3) ls r2 M2) → e_T sh Y rm pc (ls.map f_ev) (st.map f_ev) (M, t0) cs Q := by
    rintro x kd n q r2 v rfl rfl hv hz hk
    obtain ⟨k1, k2⟩ := f_tvs_cons (f_tvs_cons H.st).2
    obtain ⟨k3, k4⟩ := f_rf_lo k1 (by omega)
    have hTy := H.2.2.2.2.2.2.1
    rw [List.map_cons, List.map_cons]
    refine e_putf (a := (q : Int)) (n := x) hdg hf hfin (by rw [ht]; exact hv) (fun e => hz (by rw [← ht]; exact e)) (by omega) (Int.natCast_nonneg _) (by rw [Int.toNat_natCast]; have := hTy.1; omega) (by rw [Int.toNat_natCast, k3]) ?_
    rw [Int.toNat_natCast]
    refine H.goM (hk _ rfl) k2 (hTy.put k4 (fun _ e => ?_) (fun e _ => ?_))
    · rw [k3] at e; dsimp only at e; omega
    · rw [k3] at e; dsimp only at e; omega
  rcases hc with rfl | rfl | rfl
  · replace h := f_eI_b (show f_eI st _ from h)
    obtain ⟨x, r, rfl, h⟩ := h
    replace h := f_eA_b h
    obtain ⟨⟨kd, n, q⟩, r2, rfl, h⟩ := h
    replace h := f_c_b h
    obtain ⟨hc, h⟩ := h
    exact key x kd n q r2 (.inl x) rfl (f_bq hc) rfl (fun e => by cases e) h
  · replace h := f_eI_b (show f_eI st _ from h)
    obtain ⟨x, r, rfl, h⟩ := h
    replace h := f_eA_b h
    obtain ⟨⟨kd, n, q⟩, r2, rfl, h⟩ := h
    replace h := f_c_b h
    obtain ⟨hc, hx, h⟩ := h
    exact key x kd n q r2 (.inl x) rfl (f_bq hc) rfl (fun _ => hx) h
  · replace h := f_eL_b (show f_eL st _ from h)
    obtain ⟨x, r, rfl, h⟩ := h
    replace h := f_eA_b h
    obtain ⟨⟨kd, n, q⟩, r2, rfl, h⟩ := h
    replace h := f_c_b h
    obtain ⟨hc, h⟩ := h
    exact key x kd n q r2 (.inr (.inl x)) rfl (f_bq hc) rfl (fun e => by cases e) h
theorem f_putA {k3 n3 o : Nat} {z1 z2 : Int} (hdg : decode Y.2.1 pc = .ok (.putfield idx, 3)) (hf : e_FL Y.1.cls idx a b) (hfin : ∀ q, e_cl[a]? = some q → (q.2.1 b).2.2.2 = false) (ht : e_tg a b = 4) (ha : a < 13) {m : Nat} (hd : f_ft a b = (m, k3, n3, o)) : f_ok Y 26 pc a b 4 z [(z1, k3, n3), (z2, m, o)] := by
  intro sh t0 rm cs Q K ls st M H h
  replace h : f_s26 K pc a b 4 z [(z1, k3, n3), (z2, m, o)] ls st M := h
  unfold f_s26 at h
  replace h := f_eA_b h
  obtain ⟨⟨k2, n2, x⟩, r, rfl, h⟩ := h
  replace h := f_eA_b h
  obtain ⟨⟨kd, n, q⟩, r2, rfl, h⟩ := h
  replace h := f_c_b (show cond _ _ False from h)
  obtain ⟨hc, h⟩ := h
  obtain ⟨c1, hc⟩ := f_an hc
  obtain ⟨c2, hc⟩ := f_an hc
  obtain ⟨c3, hc⟩ := f_an hc
  obtain ⟨c4, c5⟩ := f_an hc
  obtain rfl := f_bq c1
  obtain rfl := f_bq c2
  obtain rfl := f_bq c3
  obtain ⟨j1, j2⟩ := f_tvs_cons H.st
  obtain ⟨k1, k2⟩ := f_tvs_cons j2
  obtain ⟨k3, k4⟩ := f_rf_lo k1 (by omega)
  obtain ⟨x3, x4⟩ := f_rf_lo j1 (f_bl c5)
  have hTy := H.2.2.2.2.2.2.1
  refine e_putf (a := (q : Int)) (n := (x : Int)) hdg hf hfin (by rw [ht]; rfl) (fun e => by omega) (by omega) (Int.natCast_nonneg _) (by rw [Int.toNat_natCast]; have := hTy.1; omega) (by rw [Int.toNat_natCast, k3]) ?_
  rw [Int.toNat_natCast]
  refine H.goM (h _ rfl) k2 (hTy.put k4 (fun _ e => ?_) (fun e _ => ?_))
  · rw [k3]
    dsimp only
    rw [hd]
    rcases (Bool.or_eq_true _ _ ▸ c4 : Nat.beq m 0 = true ∨ (Nat.beq m 2 && Nat.beq x o) = true) with c4 | c4
    · obtain rfl := f_bq c4
      show 0 ≤ e_up M q b (x : Int) q b ∧ sh (e_up M q b (x : Int) q b).toNat = _ ∧ (e_up M q b (x : Int) q b).toNat < t0
      rw [e_up_eq, Int.toNat_natCast]
      exact ⟨Int.natCast_nonneg _, x3, x4⟩
    · obtain ⟨c6, c7⟩ := f_an c4
      obtain rfl := f_bq c6
      obtain rfl := f_bq c7
      show e_up M q b (x : Int) q b = (x : Int) ∧ sh x = _ ∧ x < t0
      rw [e_up_eq]
      exact ⟨rfl, x3, x4⟩
  · rw [k3] at e; dsimp only at e; omega
/-! rows -/
theorem f_iaload (hdg : decode Y.2.1 pc = .ok (.iaload, 1)) : f_ok Y 27 pc a 0 c z t := by
  intro sh t0 rm cs Q K ls st M H h
  replace h : f_s27 K pc a 0 c z t ls st M := h
  replace h := f_eI_b h
  obtain ⟨i, r, rfl, h⟩ := h
  replace h := f_eA_b h
  obtain ⟨⟨kd, n, q⟩, r2, rfl, h⟩ := h
  obtain ⟨k1, k2⟩ := f_tvs_cons (f_tvs_cons H.st).2
  cases hk : Nat.beq kd 20 with
  | true =>
    replace h : (0 ≤ i ∧ i < (n : Int)) ∧ K 0 (pc + 1) ls (.inl (M q i.toNat) :: r2) M := by
      have h2 := show cond (Nat.beq kd 20) _ _ from h
      rw [hk] at h2
      exact h2
    obtain rfl := f_bq hk
    obtain ⟨k3, k4⟩ := f_rf_lo k1 (by decide)
    refine e_iald (a := (q : Int)) hdg (Int.natCast_nonneg _) (by rw [Int.toNat_natCast, k3]) (by rw [Int.toNat_natCast, k3]; exact h.1) ?_
    rw [Int.toNat_natCast]
    exact H.go h.2 (f_tvs_mk trivial k2)
  | false =>
    have h2 := show cond (Nat.beq kd 20) _ _ from h
    rw [hk] at h2
    replace h := f_c_b (show cond (Nat.beq kd 120) _ False from h2)
    obtain ⟨hc, h⟩ := h
    obtain rfl := f_bq hc
    rcases k1 with k1 | k1 | k1
    · have := k1.1; dsimp only at this; omega
    · obtain ⟨-, j, hj, e1, e2⟩ := k1
      dsimp only at e1 e2
      subst e1
      obtain ⟨u1, u2, u3⟩ := H.2.2.2.2.2.2.1
      obtain ⟨v1, v2⟩ := u3 j (by omega)
      rw [e2] at v1
      have w2 : n = _ := (Prod.mk.inj v1).2
      have hb : 0 ≤ i ∧ i < (n : Int) := h.1
      refine e_iald (a := ((1000001 + j : Nat) : Int)) hdg (Int.natCast_nonneg _) (by rw [Int.toNat_natCast, e2]) (by rw [Int.toNat_natCast, e2]; exact h.1) ?_
      rw [Int.toNat_natCast]
      have v3 := v2 i.toNat (by rw [← w2]; omega)
      have v4 : M (1000001 + j) i.toNat = f_kt (1000001 + j) i.toNat := by
        rw [v3]
        unfold f_kt
        rw [show 1000001 + j - 1000001 = j by omega]
        have : (x_get (99, 0, 0, []) x_kst j).2.2.1 = 0 := by
          have : ∀ j, j < 4 → (x_get (99, 0, 0, []) x_kst j).2.2.1 = 0 := by decide +kernel
          exact this j hj
        rw [this]
      show e_T sh Y rm (pc + 1) (ls.map f_ev) (.inl (M (1000001 + j) i.toNat) :: r2.map f_ev) (M, t0) cs Q
      rw [v4]
      exact H.go h.2 (f_tvs_mk trivial k2)
    · have := k1.1; dsimp only at this; omega
theorem f_laload (hdg : decode Y.2.1 pc = .ok (.laload, 1)) : f_ok Y 27 pc a 1 c z t := by
  intro sh t0 rm cs Q K ls st M H h
  replace h : f_s27 K pc a 1 c z t ls st M := h
  replace h := f_eI_b h
  obtain ⟨i, r, rfl, h⟩ := h
  replace h := f_eA_b h
  obtain ⟨⟨kd, n, q⟩, r2, rfl, h⟩ := h
  replace h := f_c_b (show cond (Nat.beq kd 23) _ False from h)
  obtain ⟨hc, h⟩ := h
  obtain rfl := f_bq hc
  obtain ⟨k1, k2⟩ := f_tvs_cons (f_tvs_cons H.st).2
  obtain ⟨k3, k4⟩ := f_rf_lo k1 (by decide)
  refine e_lald (a := (q : Int)) hdg (Int.natCast_nonneg _) (by rw [Int.toNat_natCast, k3]) (by rw [Int.toNat_natCast, k3]; exact h.1) ?_
  rw [Int.toNat_natCast]
  exact H.go h.2 (f_tvs_mk trivial k2)
theorem f_baload (hdg : decode Y.2.1 pc = .ok (.baload, 1)) : f_ok Y 27 pc a 2 c z t := by
  intro sh t0 rm cs Q K ls st M H h
  replace h : f_s27 K pc a 2 c z t ls st M := h
  replace h := f_eI_b h
  obtain ⟨i, r, rfl, h⟩ := h
  replace h := f_eA_b h
  obtain ⟨⟨kd, n, q⟩, r2, rfl, h⟩ := h
  replace h := f_c_b (show cond (Nat.beq kd 22 || Nat.beq kd 21) _ False from h)
  obtain ⟨hc, h⟩ := h
  obtain ⟨k1, k2⟩ := f_tvs_cons (f_tvs_cons H.st).2
  rcases (Bool.or_eq_true _ _ ▸ hc : Nat.beq kd 22 = true ∨ Nat.beq kd 21 = true) with hc | hc
  · obtain rfl := f_bq hc
    obtain ⟨k3, k4⟩ := f_rf_lo k1 (by decide)
    refine e_bald (a := (q : Int)) hdg (Int.natCast_nonneg _) (by rw [Int.toNat_natCast, k3]) (by rw [Int.toNat_natCast, k3]; exact h.1) ?_
    rw [Int.toNat_natCast]
    exact H.go h.2 (f_tvs_mk trivial k2)
  · obtain rfl := f_bq hc
    obtain ⟨k3, k4⟩ := f_rf_lo k1 (by decide)
    refine e_zald (a := (q : Int)) hdg (Int.natCast_nonneg _) (by rw [Int.toNat_natCast, k3]) (by rw [Int.toNat_natCast, k3]; exact h.1) ?_
    rw [Int.toNat_natCast]
    exact H.go h.2 (f_tvs_mk trivial k2)
theorem f_aaload {k2 n2 m o : Nat} {z1 z2 : Int} (hdg : decode Y.2.1 pc = .ok (.aaload, 1)) (hk : k2 < 13) (hn : e_num k2 = n2) : f_ok Y 27 pc a 3 c z [(z1, k2, n2), (z2, m, o)] := by
  intro sh t0 rm cs Q K ls st M H h
  replace h : f_s27 K pc a 3 c z [(z1, k2, n2), (z2, m, o)] ls st M := h
  replace h := f_eI_b h
  obtain ⟨i, r, rfl, h⟩ := h
  replace h := f_eA_b h
  obtain ⟨⟨kd, n, q⟩, r2, rfl, h⟩ := h
  replace h := f_c_b (show cond (Nat.beq kd (k2 + 30)) _ False from h)
  obtain ⟨hc, h⟩ := h
  obtain rfl := f_bq hc
  obtain ⟨k1, k9⟩ := f_tvs_cons (f_tvs_cons H.st).2
  obtain ⟨k3, k4⟩ := f_rf_lo k1 (by omega)
  obtain ⟨h1, h2⟩ := h
  have hb : 0 ≤ i ∧ i < (n : Int) := h1
  obtain ⟨u1, u2, u3⟩ := H.2.2.2.2.2.2.1
  obtain ⟨w1, w2, w3⟩ := (u2 q k4).2 i.toNat (by rw [k3]; show 30 ≤ k2 + 30; omega) (by rw [k3]; show k2 + 30 < 43; omega) (by rw [k3]; show i.toNat < n; omega)
  rw [k3] at w2
  replace w2 : sh (M q i.toNat).toNat = (k2, n2) := by rw [w2]; show (k2 + 30 - 30, e_num (k2 + 30 - 30)) = _; rw [Nat.add_sub_cancel, hn]
  refine e_aald (a := (q : Int)) (kd := k2 + 30) hdg (Int.natCast_nonneg _) (by rw [Int.toNat_natCast, k3]) (by omega) (by rw [Int.toNat_natCast, k3]; exact h1) ?_
  rw [Int.toNat_natCast]
  have e := H.go h2 (f_tvs_mk (show f_rf sh t0 (k2, n2, (M q i.toNat).toNat) from Or.inl ⟨by show k2 < 100; omega, w2, w3⟩) k9)
  rw [List.map_cons] at e
  rw [show f_ev (.inr (.inr (.inl (k2, n2, (M q i.toNat).toNat)))) = .inr (.inr (.inl (M q i.toNat))) from by show (.inr (.inr (.inl (((M q i.toNat).toNat : Nat) : Int))) : e_V) = _; rw [Int.toNat_of_nonneg w1]] at e
  exact e
theorem f_iastore (hdg : decode Y.2.1 pc = .ok (.iastore, 1)) : f_ok Y 28 pc a 0 c z t := by
  intro sh t0 rm cs Q K ls st M H h
  replace h : f_s28 K pc a 0 c z t ls st M := h
  replace h := f_eI_b (show f_eI st _ from h)
  obtain ⟨x, r, rfl, h⟩ := h
  replace h := f_eI_b h
  obtain ⟨i, r, rfl, h⟩ := h
  replace h := f_eA_b h
  obtain ⟨⟨kd, n, q⟩, r2, rfl, h⟩ := h
  replace h := f_c_b (show cond (Nat.beq kd 20) _ False from h)
  obtain ⟨hc, h1, h2⟩ := h
  obtain rfl := f_bq hc
  obtain ⟨k1, k2⟩ := f_tvs_cons (f_tvs_cons (f_tvs_cons H.st).2).2
  obtain ⟨k3, k4⟩ := f_rf_lo k1 (by decide)
  have hTy := H.2.2.2.2.2.2.1
  refine e_iast (a := (q : Int)) hdg (Int.natCast_nonneg _) (by rw [Int.toNat_natCast]; have := hTy.1; omega) (by rw [Int.toNat_natCast, k3]) (by rw [Int.toNat_natCast, k3]; exact h1) ?_
  rw [Int.toNat_natCast]
  refine H.goM (h2 _ rfl) k2 (hTy.put k4 (fun e _ => ?_) (fun e _ => ?_))
  · rw [k3] at e; dsimp only at e; omega
  · rw [k3] at e; dsimp only at e; omega
theorem f_lastore (hdg : decode Y.2.1 pc = .ok (.lastore, 1)) : f_ok Y 28 pc a 1 c z t := by
  intro sh t0 rm cs Q K ls st M H h
  replace h : f_s28 K pc a 1 c z t ls st M := h
  replace h := f_eL_b (show f_eL st _ from h)
  obtain ⟨x, r, rfl, h⟩ := h
  replace h := f_eI_b h
  obtain ⟨i, r, rfl, h⟩ := h
  replace h := f_eA_b h
  obtain ⟨⟨kd, n, q⟩, r2, rfl, h⟩ := h
  replace h := f_c_b (show cond (Nat.beq kd 23) _ False from h)
  obtain ⟨hc, h1, h2⟩ := h
  obtain rfl := f_bq hc
  obtain ⟨k1, k2⟩ := f_tvs_cons (f_tvs_cons (f_tvs_cons H.st).2).2
  obtain ⟨k3, k4⟩ := f_rf_lo k1 (by decide)
  have hTy := H.2.2.2.2.2.2.1
  refine e_last (a := (q : Int)) hdg (Int.natCast_nonneg _) (by rw [Int.toNat_natCast]; have := hTy.1; omega) (by rw [Int.toNat_natCast, k3]) (by rw [Int.toNat_natCast, k3]; exact h1) ?_
  rw [Int.toNat_natCast]
  refine H.goM (h2 _ rfl) k2 (hTy.put k4 (fun e _ => ?_) (fun e _ => ?_))
  · rw [k3] at e; dsimp only at e; omega
  · rw [k3] at e; dsimp only at e; omega
theorem f_g29 (hdg : decode Y.2.1 pc = .ok (.bastore, 1)) : f_ok Y 29 pc a b c z t := by
  intro sh t0 rm cs Q K ls st M H h
  replace h : f_s29 K pc a b c z t ls st M := h
  replace h := f_eI_b (show f_eI st _ from h)
  obtain ⟨x, r, rfl, h⟩ := h
  replace h := f_eI_b h
  obtain ⟨i, r, rfl, h⟩ := h
  replace h := f_eA_b h
  obtain ⟨⟨kd, n, q⟩, r2, rfl, h⟩ := h
  obtain ⟨k1, k2⟩ := f_tvs_cons (f_tvs_cons (f_tvs_cons H.st).2).2
  have hTy := H.2.2.2.2.2.2.1
  cases hk : Nat.beq kd 22 with
  | true =>
    have h2 := show cond (Nat.beq kd 22) _ _ from h
    rw [hk] at h2
    replace h2 : (0 ≤ i ∧ i < (n : Int)) ∧ ∀ M2, M2 = e_up M q i.toNat (e_w8 x) → K 0 (pc + 1) ls r2 M2 := h2
    obtain ⟨h1, h2⟩ := h2
    obtain rfl := f_bq hk
    obtain ⟨k3, k4⟩ := f_rf_lo k1 (by decide)
    refine e_bast (a := (q : Int)) hdg (Int.natCast_nonneg _) (by rw [Int.toNat_natCast]; have := hTy.1; omega) (by rw [Int.toNat_natCast, k3]) (by rw [Int.toNat_natCast, k3]; exact h1) ?_
    rw [Int.toNat_natCast]
    refine H.goM (h2 _ rfl) k2 (hTy.put k4 (fun e _ => ?_) (fun e _ => ?_))
    · rw [k3] at e; dsimp only at e; omega
    · rw [k3] at e; dsimp only at e; omega
  | false =>
    have h2 := show cond (Nat.beq kd 22) _ _ from h
    rw [hk] at h2
    replace h := f_c_b (show cond (Nat.beq kd 21) _ False from h2)
    obtain ⟨hc, ⟨h1, h3⟩, h2⟩ := h
    obtain rfl := f_bq hc
    obtain ⟨k3, k4⟩ := f_rf_lo k1 (by decide)
    refine e_zast (a := (q : Int)) hdg (Int.natCast_nonneg _) (by rw [Int.toNat_natCast]; have := hTy.1; omega) (by rw [Int.toNat_natCast, k3]) (by rw [Int.toNat_natCast, k3]; exact h1) h3 ?_
    rw [Int.toNat_natCast]
    refine H.goM (h2 _ rfl) k2 (hTy.put k4 (fun e _ => ?_) (fun e _ => ?_))
    · rw [k3] at e; dsimp only at e; omega
    · rw [k3] at e; dsimp only at e; omega
theorem f_g30 {k3 n3 m o : Nat} {z1 z2 : Int} (hdg : decode Y.2.1 pc = .ok (.aastore, 1)) (hn : e_num k3 = n3) : f_ok Y 30 pc a b c z [(z1, k3, n3), (z2, m, o)] := by
  intro sh t0 rm cs Q K ls st M H h
  replace h : f_s30 K pc a b c z [(z1, k3, n3), (z2, m, o)] ls st M := h
  replace h := f_eA_b (show f_eA st _ from h)
  obtain ⟨⟨k2, n2, x⟩, r, rfl, h⟩ := h
  replace h := f_eI_b h
  obtain ⟨i, r, rfl, h⟩ := h
  replace h := f_eA_b h
  obtain ⟨⟨kd, n, q⟩, r2, rfl, h⟩ := h
  replace h := f_c_b (show cond _ _ False from h)
  obtain ⟨hc, h1, h2⟩ := h
  obtain ⟨c1, hc⟩ := f_an hc
  obtain ⟨c2, hc⟩ := f_an hc
  obtain ⟨c3, c5⟩ := f_an hc
  obtain rfl := f_bq c1
  obtain rfl := f_bq c2
  obtain rfl := f_bq c3
  have c5 := f_bl c5
  obtain ⟨j1, j2⟩ := f_tvs_cons H.st
  obtain ⟨k1, k9⟩ := f_tvs_cons (f_tvs_cons j2).2
  obtain ⟨k3, k4⟩ := f_rf_lo k1 (by omega)
  obtain ⟨x3, x4⟩ := f_rf_lo j1 (by omega)
  have hTy := H.2.2.2.2.2.2.1
  refine e_aast (a := (q : Int)) (kd := k2 + 30) (v := (x : Int)) hdg (Int.natCast_nonneg _) (by rw [Int.toNat_natCast]; have := hTy.1; omega) (by rw [Int.toNat_natCast, k3]) (by omega) (by rw [Int.toNat_natCast, k3]; exact h1) (Int.natCast_nonneg _) (by rw [Int.toNat_natCast, x3]; show k2 = k2 + 30 - 30; omega) (by omega) ?_
  rw [Int.toNat_natCast]
  refine H.goM (h2 _ rfl) k9 (hTy.put k4 (fun e _ => ?_) (fun _ _ => ?_))
  · rw [k3] at e; dsimp only at e; omega
  · rw [k3, Int.toNat_natCast, x3]
    exact ⟨Int.natCast_nonneg _, by show (k2, n2) = (k2 + 30 - 30, e_num (k2 + 30 - 30)); rw [Nat.add_sub_cancel, hn], x4⟩
theorem f_g31 (hdg : decode Y.2.1 pc = .ok (.arraylength, 1)) : f_ok Y 31 pc a b c z t := by
  intro sh t0 rm cs Q K ls st M H h
  replace h : f_s31 K pc a b c z t ls st M := h
  replace h := f_eA_b (show f_eA st _ from h)
  obtain ⟨⟨kd, n, q⟩, r, rfl, h⟩ := h
  replace h := f_c_b (show cond _ _ False from h)
  obtain ⟨hc, h⟩ := h
  obtain ⟨c1, hc⟩ := f_an hc
  obtain ⟨c2, c3⟩ := f_an hc
  obtain ⟨k1, k2⟩ := f_tvs_cons H.st
  obtain ⟨k3, k4⟩ := f_rf_lo k1 (f_bl c2)
  refine e_alen (a := (q : Int)) (kd := kd) hdg (Int.natCast_nonneg _) (by rw [Int.toNat_natCast, k3]) (Nat.le_of_ble_eq_true c1) (by rw [Int.toNat_natCast, k3]; exact f_bl c3) ?_
  rw [Int.toNat_natCast, k3]
  exact H.go h (f_tvs_mk trivial k2)
/-- a name for what lies there: no instruction -/
theorem f_g33 : f_ok Y 33 pc a b c z t := by
  intro sh t0 rm cs Q K ls st M H h
  replace h : f_s33 K pc a b c z t ls st M := h
  unfold f_s33 at h
  split at h
  · exact H.go (h _ rfl) H.st
  · exact H.go (h _ rfl) H.st
  · exact H.go (h _ rfl) H.st
  · exact h.elim
theorem f_gets {j n : Nat} {q : String × String} (hdg : decode Y.2.1 pc = .ok (.getstatic idx, 3)) (hq : e_stat[j]? = some q) (hw : Cond.fieldLink Y.1.cls idx q.1 q.2 "[I" ∈ e_gd) (hb : 1000001 + j = b) (hn : (x_get (99, 0, 0, []) x_kst j).1 = 20 ∧ (x_get (99, 0, 0, []) x_kst j).2.1 = n) : f_ok Y 35 pc 3 b n z t := by
  intro sh t0 rm cs Q K ls st M H h
  replace h : f_s35 K pc 3 b n z t ls st M := h
  have hj : j < 4 := (List.getElem?_eq_some_iff.mp hq).1
  obtain ⟨u1, u2, u3⟩ := H.2.2.2.2.2.2.1
  refine e_gets hdg hq hw ?_
  subst hb
  exact H.go h (f_tvs_mk (show f_rf sh t0 (120, n, 1000001 + j) from Or.inr (Or.inl ⟨rfl, j, hj, rfl, by rw [(u3 j (by omega)).1, hn.1, hn.2]⟩)) H.st)
theorem f_getsN {j n : Nat} {q : String × String} {host : String} (hdg : decode Y.2.1 pc = .ok (.getstatic idx, 3)) (hq : e_stat[j]? = some q) (hw : Cond.fieldLinkNest Y.1.cls idx q.1 q.2 "[I" host ∈ e_nest) (hb : 1000001 + j = b) (hn : (x_get (99, 0, 0, []) x_kst j).1 = 20 ∧ (x_get (99, 0, 0, []) x_kst j).2.1 = n) : f_ok Y 35 pc 3 b n z t := by
  intro sh t0 rm cs Q K ls st M H h
  replace h : f_s35 K pc 3 b n z t ls st M := h
  have hj : j < 4 := (List.getElem?_eq_some_iff.mp hq).1
  obtain ⟨u1, u2, u3⟩ := H.2.2.2.2.2.2.1
  refine e_getsN hdg hq hw ?_
  subst hb
  exact H.go h (f_tvs_mk (show f_rf sh t0 (120, n, 1000001 + j) from Or.inr (Or.inl ⟨rfl, j, hj, rfl, by rw [(u3 j (by omega)).1, hn.1, hn.2]⟩)) H.st)
end FOK
section FOK2
variable {sh : Nat → Nat × Nat} {Y : e_Y} {rm : Nat × Nat × Nat} {pc : Nat} {ls st : List e_V} {g : e_G} {cs : Nat × Nat} {Q : Option e_V → e_G → Prop} {x : Int} {idx i : Nat}
theorem e_ldcSw {tx : String} (hdg : decode Y.2.1 pc = .ok (.ldc_w idx, 3)) (hm : (Y.1.cls, idx, tx, i) ∈ e_strl) (hi : i < 29) (hs : sh (1000005 + i) = (15, i + 1)) (k : e_T sh Y rm (pc + 3) ls (.inr (.inr (.inl ((1000005 + i : Nat) : Int))) :: st) g cs Q) : e_T sh Y rm pc ls st g cs Q := by
  intro p l e s m args below meth c D ad0 t0 ad H locs lsJ hC hE hI hL hls hst
  have hv := hE.2.2.2.2.2 _ hm
  have hal : e_al g.2 (1000005 + i) := Or.inr ⟨by omega, by omega⟩
  obtain ⟨cell, -, h2⟩ := hI.1.1 (1000005 + i) hal
  rw [hs] at h2
  have e1 : ad (1000005 + i) = D.2 50 (i + 1) := by
    rcases h2 with h | h | h
    · exact absurd h.2.1 (by show ¬ i + 1 = e_num 15; rw [show e_num 15 = 0 from rfl]; omega)
    · exact absurd h.1 (by show ¬ 20 ≤ 15; decide)
    · exact h.2
  have key := k p l e s m args below meth c D ad0 t0 ad H locs lsJ hC hE hI hL hls (e_ok_cons (e_orf hal) e_na hst)
  rw [List.map_cons, e_vrf, e1] at key
  intro T hT X
  obtain ⟨t, a1, b1⟩ := key T hT X
  exact ⟨t, X.ldcStringW hC.1 hC.2.2.2.2.1 (text := tx) hv.1 hv.2 (g := F0 m pc lsJ (st.map (e_vv ad))) rfl (by rw [hC.2.1]; exact hdg) t a1, b1⟩
theorem e_mabsL (hdg : decode Y.2.1 pc = .ok (.invokestatic idx, 3)) (hl : Cond.methodLink Y.1.cls idx Lib.MathLoose.abs_long.x ∈ e_gd) (hs : Cond.static Lib.MathLoose.abs_long.x ∈ e_gd) (hi : Cond.initialized "java/lang/Math" ∈ e_gd) (hcd : Cond.code Lib.MathLoose.abs_long.x Lib.MathLoose.abs_long.code 2 (some .long) ∈ e_gd)
    (hr : 1 ≤ rm.1) (hc : e_cat st ≤ 8) (h1 : cs.1 ≤ rm.2.1) (h2 : cs.2 ≤ rm.2.2) (k : e_T sh Y rm (pc + 3) ls (.inr (.inl (f_absJ x)) :: st) g cs Q) : e_T sh Y rm pc ls (.inr (.inl x) :: st) g cs Q := by
  intro p l e s m args below meth c D ad0 t0 ad H locs lsJ hC hE hI hL hls hst
  obtain ⟨hx, hst3⟩ := e_ok_pop hst
  have hcat := e_cat_le (ad := ad) (st := st)
  have hz : e_i64 0 := ⟨by decide, by decide⟩
  have hx64 : e_i64 x := hx
  refine va_mabs_long hC.1 hC.2.1 (hC.2.2.1.trans hL.1.symm) hC.2.2.2.2.1 (hC.2.2.2.2.2.1 _ hl) (hC.2.2.2.2.2.1 _ hs) (hC.2.2.2.2.2.1 _ hi) (hC.2.2.2.2.2.1 _ hcd) hr (by show _ ≤ 128 * rm.1; omega) h1 h2 hdg ?_
  have e1 : (if 0 < Int64.ofInt x then Int64.ofInt x else -Int64.ofInt x) = Int64.ofInt (f_absJ x) := by
    unfold f_absJ
    have e0 : (0 : Int64) = Int64.ofInt 0 := rfl
    rw [e0]
    by_cases h : 0 < x
    · rw [if_pos h, if_pos ((e_lt64 hz hx64).mpr h)]
    · rw [if_neg h, if_neg (fun z => h ((e_lt64 hz hx64).mp z)), e_neg64 hx64]
  rw [e1]
  refine k p l e s m args below meth c D ad0 t0 ad H locs lsJ hC hE hI hL hls (e_ok_cons (v := .inr (.inl (f_absJ x))) ?_ (fun h => by cases h) hst3)
  show e_i64 (f_absJ x)
  unfold f_absJ
  split
  · exact hx64
  · exact e_w64_rng _
end FOK2
theorem f_kz : ∀ j, j < 62 → (x_get (99, 0, 0, []) x_kst j).2.2.1 = 0 := by decide +kernel
theorem f_ks : ∀ i, i < 29 → (x_get (99, 0, 0, []) x_kst (4 + i)).1 = 15 ∧ (x_get (99, 0, 0, []) x_kst (4 + i)).2.1 = i + 1 ∧ (x_get (99, 0, 0, []) x_kst (33 + i)).1 = 22 := by decide +kernel
theorem f_kall : ∀ i, i < 29 → (x_get (99, 0, 0, []) x_kst (33 + i)).2.2.2.all (fun x => decide (0 ≤ x ∧ x < 128)) = true := by decide +kernel
theorem f_get_all {p : Int → Prop} {d : Int} (hd : p d) : ∀ {l : List Int} {n : Nat}, (∀ x ∈ l, p x) → p (x_get d l n)
  | [], n, _ => by rw [x_get_nil]; exact hd
  | y :: l, 0, h => h y List.mem_cons_self
  | y :: l, n + 1, h => by rw [x_get_s]; exact f_get_all hd (fun x hx => h x (List.mem_cons_of_mem _ hx))
theorem f_kb {i k : Nat} (hi : i < 29) : ∃ b : Nat, b < 128 ∧ f_kt (1000034 + i) k = (b : Int) := by
  have h : 0 ≤ f_kt (1000034 + i) k ∧ f_kt (1000034 + i) k < 128 := by
    unfold f_kt
    rw [show 1000034 + i - 1000001 = 33 + i by omega]
    refine f_get_all (p := fun x => 0 ≤ x ∧ x < 128) ⟨by decide, by decide⟩ (fun x hx => ?_)
    have := List.all_eq_true.mp (f_kall i hi) x hx
    simpa using this
  exact ⟨(f_kt (1000034 + i) k).toNat, by omega, by omega⟩
theorem f_Ks.at {sh : Nat → Nat × Nat} {M : e_M} (h : f_Ks sh M) {j k : Nat} (hj : j < 62) (hk : k < (sh (1000001 + j)).2) : M (1000001 + j) k = f_kt (1000001 + j) k := by
  obtain ⟨h1, h2⟩ := h j hj
  rw [h1] at hk
  rw [h2 k hk, f_kz j hj]
  unfold f_kt
  rw [show 1000001 + j - 1000001 = j by omega]
theorem f_kn : ∀ i, i < 29 → (x_get (99, 0, 0, []) x_kst (33 + i)).2.1 < 2147483648 := by decide +kernel
theorem f_sl {sh : Nat → Nat × Nat} {M : e_M} {i n : Nat} (hi : i < 29) (h : sh (1000034 + i) = (22, n)) (hK : f_Ks sh M) : n < 2147483648 := by
  have v2 := (hK (33 + i) (by omega)).1
  rw [show 1000001 + (33 + i) = 1000034 + i by omega, h] at v2
  have := (Prod.mk.inj v2).2
  rw [this]
  exact f_kn i hi
section FOK3
variable {Y : e_Y} {pc a b c idx : Nat} {z : Int} {t : List (Int × Nat × Nat)}
theorem f_slen (hdg : decode Y.2.1 pc = .ok (.invokevirtual idx, 3)) (hl : Cond.methodLink Y.1.cls idx YJ0_length_8abf5.1 ∈ e_gd) : f_ok Y 36 pc a b c z t := by
  intro sh t0 rm cs Q K ls st M H h
  replace h : f_s36 K pc a b c z t ls st M := h
  replace h := f_eA_b (show f_eA st _ from h)
  obtain ⟨⟨kd, n, q⟩, r, rfl, h⟩ := h
  replace h := f_c_b (show cond _ _ False from h)
  obtain ⟨hc, h⟩ := h
  obtain ⟨c1, c3⟩ := f_an hc
  obtain rfl := f_bq c1
  obtain ⟨k1, k2⟩ := f_tvs_cons H.st
  rcases k1 with k1 | k1 | ⟨-, i, hi, e1, e2⟩
  · have := k1.1; dsimp only at this; omega
  · have := k1.1; dsimp only at this; omega
  · dsimp only at e1 e2
    subst e1
    have c2 := f_sl hi e2 H.2.2.2.2.2.2.1.2.2
    refine e_slength hdg hl hi (by rw [e2]) (by rw [e2]; exact c2) H.1 H.2.1 H.2.2.1 (f_cat_le c3) ?_
    rw [e2]
    exact H.go h (f_tvs_mk trivial k2)
theorem f_schar (hdg : decode Y.2.1 pc = .ok (.invokevirtual idx, 3)) (hl : Cond.methodLink Y.1.cls idx YJ0_charAt_5068e.1 ∈ e_gd) : f_ok Y 37 pc a b c z t := by
  intro sh t0 rm cs Q K ls st M H h
  replace h : f_s37 K pc a b c z t ls st M := h
  replace h := f_eI_b (show f_eI st _ from h)
  obtain ⟨i, r, rfl, h⟩ := h
  replace h := f_eA_b h
  obtain ⟨⟨kd, n, q⟩, r2, rfl, h⟩ := h
  replace h := f_c_b (show cond _ _ False from h)
  obtain ⟨hc, h1, h⟩ := h
  obtain ⟨c1, c3⟩ := f_an hc
  obtain rfl := f_bq c1
  obtain ⟨k1, k2⟩ := f_tvs_cons (f_tvs_cons H.st).2
  rcases k1 with k1 | k1 | ⟨-, j, hj, e1, e2⟩
  · have := k1.1; dsimp only at this; omega
  · have := k1.1; dsimp only at this; omega
  · dsimp only at e1 e2
    subst e1
    have c2 := f_sl hj e2 H.2.2.2.2.2.2.1.2.2
    obtain ⟨b, hb, eb⟩ := f_kb (k := i.toNat) hj
    have hn : 0 ≤ i ∧ i < (n : Int) := h1
    have hM : M (1000034 + j) i.toNat = f_kt (1000034 + j) i.toNat := by
      have := H.2.2.2.2.2.2.1.2.2.at (j := 33 + j) (k := i.toNat) (by omega) (by rw [show 1000001 + (33 + j) = 1000034 + j by omega, e2]; show i.toNat < n; omega)
      rw [show 1000001 + (33 + j) = 1000034 + j by omega] at this
      exact this
    have ei : i = ((i.toNat : Nat) : Int) := by omega
    have key := e_scharAt (sh := sh) (Y := Y) (rm := rm) (pc := pc) (ls := ls.map f_ev) (st := r2.map f_ev) (g := (M, t0)) (cs := cs) (Q := Q) (k := i.toNat) (b := b) hdg hl hj (by rw [e2]) (by rw [e2]; show i.toNat < n; omega) (by rw [e2]; exact c2) (by rw [← eb]; exact hM) hb H.1 H.2.1 H.2.2.1 (f_cat_le c3) (by
      rw [← eb, show 1000034 + j = 1000005 + j + 29 by omega]
      exact H.go h (f_tvs_mk trivial k2))
    rw [← ei] at key
    exact key
theorem f_ldcS {i n : Nat} {tx : String} (hdg : decode Y.2.1 pc = .ok (.ldc idx, 2)) (hm : (Y.1.cls, idx, tx, i) ∈ e_strl) (hi : i < 29) (hb : 1000005 + i = b) (hn : (x_get (99, 0, 0, []) x_kst (33 + i)).2.1 = n) : f_ok Y 38 pc 2 b n z t := by
  intro sh t0 rm cs Q K ls st M H h
  replace h : f_s38 K pc 2 b n z t ls st M := h
  obtain ⟨u1, u2, u3⟩ := H.2.2.2.2.2.2.1
  have v1 := (u3 (4 + i) (by omega)).1
  have v2 := (u3 (33 + i) (by omega)).1
  obtain ⟨w1, w2, w3⟩ := f_ks i hi
  rw [w1, w2, show 1000001 + (4 + i) = 1000005 + i by omega] at v1
  rw [w3, hn, show 1000001 + (33 + i) = 1000034 + i by omega] at v2
  subst hb
  exact e_ldcS hdg hm hi v1 (H.go h (f_tvs_mk (show f_rf sh t0 (115, n, 1000005 + i) from Or.inr (Or.inr ⟨rfl, i, hi, rfl, v2⟩)) H.st))
theorem f_ldcSw {i n : Nat} {tx : String} (hdg : decode Y.2.1 pc = .ok (.ldc_w idx, 3)) (hm : (Y.1.cls, idx, tx, i) ∈ e_strl) (hi : i < 29) (hb : 1000005 + i = b) (hn : (x_get (99, 0, 0, []) x_kst (33 + i)).2.1 = n) : f_ok Y 38 pc 3 b n z t := by
  intro sh t0 rm cs Q K ls st M H h
  replace h : f_s38 K pc 3 b n z t ls st M := h
  obtain ⟨u1, u2, u3⟩ := H.2.2.2.2.2.2.1
  have v1 := (u3 (4 + i) (by omega)).1
  have v2 := (u3 (33 + i) (by omega)).1
  obtain ⟨w1, w2, w3⟩ := f_ks i hi
  rw [w1, w2, show 1000001 + (4 + i) = 1000005 + i by omega] at v1
  rw [w3, hn, show 1000001 + (33 + i) = 1000034 + i by omega] at v2
  subst hb
  exact e_ldcSw hdg hm hi v1 (H.go h (f_tvs_mk (show f_rf sh t0 (115, n, 1000005 + i) from Or.inr (Or.inr ⟨rfl, i, hi, rfl, v2⟩)) H.st))
theorem f_absL (hdg : decode Y.2.1 pc = .ok (.invokestatic idx, 3)) (hl : Cond.methodLink Y.1.cls idx Lib.MathLoose.abs_long.x ∈ e_gd) (hs : Cond.static Lib.MathLoose.abs_long.x ∈ e_gd) (hi : Cond.initialized "java/lang/Math" ∈ e_gd) (hcd : Cond.code Lib.MathLoose.abs_long.x Lib.MathLoose.abs_long.code 2 (some .long) ∈ e_gd) : f_ok Y 34 pc a b c z t := by
  intro sh t0 rm cs Q K ls st M H h
  replace h : f_s34 K pc a b c z t ls st M := h
  replace h := f_eL_b h
  obtain ⟨x, r, rfl, h⟩ := h
  replace h := f_c_b h
  obtain ⟨hc, h⟩ := h
  exact e_mabsL hdg hl hs hi hcd (by have := H.1; omega) (f_cat_le hc) H.2.1 H.2.2.1 (H.go h (f_tvs_mk trivial (f_tvs_cons H.st).2))
theorem f_mminI (hdg : decode Y.2.1 pc = .ok (.invokestatic idx, 3)) (hl : Cond.methodLink Y.1.cls idx Lib.Math.min.name ∈ e_gd) (hs : Cond.static Lib.Math.min.name ∈ e_gd) (hi : Cond.initialized "java/lang/Math" ∈ e_gd) (hcd : Cond.code Lib.Math.min.name Lib.Math.min.code 2 (some .int) ∈ e_gd) : f_ok Y 39 pc a 0 0 z t := by
  intro sh t0 rm cs Q K ls st M H h
  replace h : f_s39 K pc a 0 0 z t ls st M := h
  replace h := f_eI_b (show f_eI st _ from h)
  obtain ⟨y, r, rfl, h⟩ := h
  replace h := f_eI_b h
  obtain ⟨x, r, rfl, h⟩ := h
  replace h := f_c_b h
  obtain ⟨hc, h⟩ := h
  exact e_mmin hdg hl hs hi hcd (by have := H.1; omega) (f_cat_le hc) H.2.1 H.2.2.1 (H.go h (f_tvs_mk trivial (f_tvs_cons (f_tvs_cons H.st).2).2))
theorem f_mmaxI (hdg : decode Y.2.1 pc = .ok (.invokestatic idx, 3)) (hl : Cond.methodLink Y.1.cls idx Lib.Math.max.name ∈ e_gd) (hs : Cond.static Lib.Math.max.name ∈ e_gd) (hi : Cond.initialized "java/lang/Math" ∈ e_gd) (hcd : Cond.code Lib.Math.max.name Lib.Math.max.code 2 (some .int) ∈ e_gd) : f_ok Y 39 pc a 1 0 z t := by
  intro sh t0 rm cs Q K ls st M H h
  replace h : f_s39 K pc a 1 0 z t ls st M := h
  replace h := f_eI_b (show f_eI st _ from h)
  obtain ⟨y, r, rfl, h⟩ := h
  replace h := f_eI_b h
  obtain ⟨x, r, rfl, h⟩ := h
  replace h := f_c_b h
  obtain ⟨hc, h⟩ := h
  exact e_mmax hdg hl hs hi hcd (by have := H.1; omega) (f_cat_le hc) H.2.1 H.2.2.1 (H.go h (f_tvs_mk trivial (f_tvs_cons (f_tvs_cons H.st).2).2))
theorem f_mminJ (hdg : decode Y.2.1 pc = .ok (.invokestatic idx, 3)) (hl : Cond.methodLink Y.1.cls idx Lib.MathLoose.min_long.x ∈ e_gd) (hs : Cond.static Lib.MathLoose.min_long.x ∈ e_gd) (hi : Cond.initialized "java/lang/Math" ∈ e_gd) (hcd : Cond.code Lib.MathLoose.min_long.x Lib.MathLoose.min_long.code 4 (some .long) ∈ e_gd) : f_ok Y 39 pc a 0 3 z t := by
  intro sh t0 rm cs Q K ls st M H h
  replace h : f_s39 K pc a 0 3 z t ls st M := h
  replace h := f_eL_b (show f_eL st _ from h)
  obtain ⟨y, r, rfl, h⟩ := h
  replace h := f_eL_b h
  obtain ⟨x, r, rfl, h⟩ := h
  replace h := f_c_b h
  obtain ⟨hc, h⟩ := h
  exact e_mminL hdg hl hs hi hcd (by have := H.1; omega) (f_cat_le hc) H.2.1 H.2.2.1 (H.go h (f_tvs_mk trivial (f_tvs_cons (f_tvs_cons H.st).2).2))
theorem f_mmaxJ (hdg : decode Y.2.1 pc = .ok (.invokestatic idx, 3)) (hl : Cond.methodLink Y.1.cls idx Lib.MathLoose.max_long.x ∈ e_gd) (hs : Cond.static Lib.MathLoose.max_long.x ∈ e_gd) (hi : Cond.initialized "java/lang/Math" ∈ e_gd) (hcd : Cond.code Lib.MathLoose.max_long.x Lib.MathLoose.max_long.code 4 (some .long) ∈ e_gd) : f_ok Y 39 pc a 1 3 z t := by
  intro sh t0 rm cs Q K ls st M H h
  replace h : f_s39 K pc a 1 3 z t ls st M := h
  replace h := f_eL_b (show f_eL st _ from h)
  obtain ⟨y, r, rfl, h⟩ := h
  replace h := f_eL_b h
  obtain ⟨x, r, rfl, h⟩ := h
  replace h := f_c_b h
  obtain ⟨hc, h⟩ := h
  exact e_mmaxL hdg hl hs hi hcd (by have := H.1; omega) (f_cat_le hc) H.2.1 H.2.2.1 (H.go h (f_tvs_mk trivial (f_tvs_cons (f_tvs_cons H.st).2).2))
end FOK3
