noncomputable section
/-! a machine that the kernel itself runs: instructions as numbers, a memory as nested rows; what it answers is what the frame answers -/
abbrev x_O : Type := Nat × Nat × Int × List Int
abbrev x_M : Type := List (List (List (Option x_O)))
def x_ta {α : Type} (l : List α) : List α := match l with
  | [] => []
  | _ :: r => r
def x_hd {α : Type} (d : α) (l : List α) : α := match l with
  | [] => d
  | x :: _ => x
def x_tls {α : Type} (l : List α) (n : Nat) : List α := Nat.rec (motive := fun _ => List α) l (fun _ r => x_ta r) n
/-- a place of a row, by the kernel's own recursion on numbers -/
def x_get {α : Type} (d : α) (l : List α) (n : Nat) : α := x_hd d (x_tls l n)
theorem x_tls_s {α : Type} : ∀ (n : Nat) (l : List α), x_tls l (n + 1) = x_tls (x_ta l) n
  | 0, _ => rfl
  | n + 1, l => by
    show x_ta (x_tls l (n + 1)) = x_ta (x_tls (x_ta l) n)
    rw [x_tls_s n l]
theorem x_get_0 {α : Type} {d x : α} {l : List α} : x_get d (x :: l) 0 = x := rfl
theorem x_get_s {α : Type} {d x : α} {l : List α} {n : Nat} : x_get d (x :: l) (n + 1) = x_get d l n := by
  unfold x_get
  rw [x_tls_s]
  rfl
def x_set {α : Type} (d v : α) : Nat → List α → List α
  | 0, [] => [v]
  | 0, _ :: l => v :: l
  | n + 1, [] => d :: x_set d v n []
  | n + 1, x :: l => x :: x_set d v n l
theorem x_get_nil {α : Type} {d : α} {n : Nat} : x_get d [] n = d := by
  have h : ∀ n, x_tls ([] : List α) n = [] := by
    intro n
    induction n with
    | zero => rfl
    | succ n ih =>
      show x_ta (x_tls [] n) = []
      rw [ih]
      rfl
  unfold x_get
  rw [h]
  rfl
theorem x_get_set {α : Type} {d v : α} : ∀ (n : Nat) (l : List α) (m : Nat), x_get d (x_set d v n l) m = if m = n then v else x_get d l m := by
  intro n
  induction n with
  | zero =>
    intro l m
    cases l <;> cases m <;> simp [x_set, x_get_0, x_get_s, x_get_nil]
  | succ n ih =>
    intro l m
    cases l with
    | nil => cases m with
      | zero => simp [x_set, x_get_0, x_get_nil]
      | succ m => simp [x_set, x_get_s, ih, x_get_nil]
    | cons x l => cases m with
      | zero => simp [x_set, x_get_0]
      | succ m => simp [x_set, x_get_s, ih]
theorem x_get_some {α : Type} {d v : α} : ∀ {l : List α} {n : Nat}, x_get d l n = v → v ≠ d → l[n]? = some v
  | [], n, h, hd => absurd (h.symm.trans x_get_nil) hd
  | x :: _, 0, h, _ => by rw [← h]; rfl
  | _ :: l, n + 1, h, hd => by rw [x_get_s] at h; rw [List.getElem?_cons_succ]; exact x_get_some (l := l) h hd
theorem x_get_of {α : Type} {d v : α} : ∀ {l : List α} {n : Nat}, l[n]? = some v → x_get d l n = v
  | [], _, h => by cases h
  | x :: _, 0, h => Option.some.inj h
  | _ :: l, n + 1, h => by rw [x_get_s]; exact x_get_of (l := l) (by rw [List.getElem?_cons_succ] at h; exact h)
/-- the same, with its result made at once -/
def x_se0 {α β : Type} (v : α) (l : List α) (k : List α → β) : β := match l with
  | [] => k [v]
  | _ :: r => k (v :: r)
def x_ses {α β : Type} (d : α) (ih : List α → (List α → β) → β) (l : List α) (k : List α → β) : β := match l with
  | [] => ih [] (fun r => k (d :: r))
  | x :: q => ih q (fun r => k (x :: r))
def x_sek {α β : Type} (d v : α) (n : Nat) : List α → (List α → β) → β := Nat.rec (motive := fun _ => List α → (List α → β) → β) (x_se0 v) (fun _ ih => x_ses d ih) n
theorem x_sek_eq {α β : Type} {d v : α} : ∀ (n : Nat) (l : List α) (k : List α → β), x_sek d v n l k = k (x_set d v n l)
  | 0, [], _ => rfl
  | 0, _ :: _, _ => rfl
  | n + 1, [], k => x_sek_eq n [] (fun r => k (d :: r))
  | n + 1, x :: l, k => x_sek_eq n l (fun r => k (x :: r))
/-- a local, made at once -/
def x_ls0 {α β : Type} (v : α) (l : List α) (k : List α → β) : β := match l with
  | [] => k []
  | _ :: r => k (v :: r)
def x_lss {α β : Type} (ih : List α → (List α → β) → β) (l : List α) (k : List α → β) : β := match l with
  | [] => k []
  | x :: q => ih q (fun r => k (x :: r))
def x_lsk {α β : Type} (v : α) (n : Nat) : List α → (List α → β) → β := Nat.rec (motive := fun _ => List α → (List α → β) → β) (x_ls0 v) (fun _ ih => x_lss ih) n
theorem x_lsk_eq {α β : Type} {v : α} : ∀ (n : Nat) (l : List α) (k : List α → β), x_lsk v n l k = k (l.set n v)
  | 0, [], _ => rfl
  | _ + 1, [], _ => rfl
  | 0, _ :: _, _ => rfl
  | n + 1, x :: l, k => x_lsk_eq n l (fun r => k (x :: r))
/-- a row, made at once -/
def x_frc {α β : Type} (l : List α) : (List α → β) → β := List.rec (motive := fun _ => (List α → β) → β) (fun k => k []) (fun x _ ih k => ih (fun r => k (x :: r))) l
theorem x_frc_eq {α β : Type} : ∀ (l : List α) (k : List α → β), x_frc l k = k l
  | [], _ => rfl
  | x :: l, k => x_frc_eq l (fun r => k (x :: r))
def x_ctk {β : Type} (ls : List e_V) (i : Nat) (k : List e_V → β) : β := match i with
  | 0 => k ls
  | Nat.succ j => match x_get (.inr (.inr (.inr ()))) ls j with
    | .inr (.inl _) => x_lsk (.inr (.inr (.inr ()))) j ls k
    | _ => k ls
theorem x_ctk_eq {β : Type} {ls : List e_V} {i : Nat} {k : List e_V → β} : x_ctk ls i k = k (e_cut ls i) := by
  cases i with
  | zero => rfl
  | succ j =>
    unfold x_ctk e_cut
    dsimp only
    cases hj : ls[j]? with
    | none =>
      have : x_get (.inr (.inr (.inr ()))) ls j = .inr (.inr (.inr ())) := by
        by_cases e : x_get (.inr (.inr (.inr ()))) ls j = .inr (.inr (.inr ()))
        · exact e
        · have := x_get_some rfl e
          rw [hj] at this
          cases this
      first
        | (rw [this]; done)
        | (rw [this]; rfl)
    | some v =>
      have : x_get (.inr (.inr (.inr ()))) ls j = v := x_get_of hj
      rw [this]
      rcases v with x | x | x | x
      · rfl
      · exact x_lsk_eq j ls k
      · rfl
      · rfl
def x_l1 {β : Type} (ls : List e_V) (i : Nat) (v : e_V) (k : List e_V → β) : β := x_ctk ls i fun l => x_lsk v i l k
def x_l2 {β : Type} (ls : List e_V) (i : Nat) (v : e_V) (k : List e_V → β) : β := x_ctk ls i fun l => x_lsk (.inr (.inr (.inr ()))) (i + 1) l fun r => x_lsk v i r k
theorem x_l1_e {β : Type} {ls : List e_V} {i : Nat} {v : e_V} {k : List e_V → β} : x_l1 ls i v k = k (e_s1 ls i v) := by
  unfold x_l1 e_s1
  rw [x_ctk_eq, x_lsk_eq]
theorem x_l2_e {β : Type} {ls : List e_V} {i : Nat} {v : e_V} {k : List e_V → β} : x_l2 ls i v k = k (e_s2 ls i v) := by
  unfold x_l2 e_s2
  rw [x_ctk_eq, x_lsk_eq, x_lsk_eq]
def x_at (M : x_M) (a : Nat) : Option x_O := x_get none (x_get [] (x_get [] M (a / 256)) (a / 16 % 16)) (a % 16)
def x_put (M : x_M) (a : Nat) (o : x_O) : x_M := x_set [] (x_set [] (x_set none (some o) (a % 16) (x_get [] (x_get [] M (a / 256)) (a / 16 % 16))) (a / 16 % 16) (x_get [] M (a / 256))) (a / 256) M
def x_puk {β : Type} (M : x_M) (a : Nat) (o : x_O) (k : x_M → β) : β :=
  x_sek none (some o) (a % 16) (x_get [] (x_get [] M (a / 256)) (a / 16 % 16)) fun r => x_sek [] r (a / 16 % 16) (x_get [] M (a / 256)) fun q => x_sek [] q (a / 256) M k
theorem x_puk_eq {β : Type} {M : x_M} {a : Nat} {o : x_O} {k : x_M → β} : x_puk M a o k = k (x_put M a o) := by
  unfold x_puk x_put
  rw [x_sek_eq, x_sek_eq, x_sek_eq]
theorem x_at_put {M : x_M} {a b : Nat} {o : x_O} : x_at (x_put M a o) b = if b = a then some o else x_at M b := by
  unfold x_at x_put
  rw [x_get_set]
  by_cases h1 : b / 256 = a / 256
  · rw [if_pos h1, x_get_set]
    by_cases h2 : b / 16 % 16 = a / 16 % 16
    · rw [if_pos h2, x_get_set]
      by_cases h3 : b % 16 = a % 16
      · rw [if_pos h3, if_pos (by omega)]
      · rw [if_neg h3, if_neg (by omega), h1, h2]
    · rw [if_neg h2, if_neg (fun h => h2 (by rw [h])), h1]
  · rw [if_neg h1, if_neg (fun h => h1 (by rw [h]))]
def x_rd (B : Nat → x_O) (M : x_M) (a : Nat) : x_O := match x_at M a with
  | none => B a
  | some o => o
theorem x_rd_put {B : Nat → x_O} {M : x_M} {a b : Nat} {o : x_O} : x_rd B (x_put M a o) b = if b = a then o else x_rd B M b := by
  unfold x_rd
  rw [x_at_put]
  split <;> rename_i h
  · split at h
    · cases h
    · rename_i h1; rw [if_neg h1, h]
  · split at h
    · rename_i h1; rw [if_pos h1]; cases h; rfl
    · rename_i h1; rw [if_neg h1, h]
def x_sl (sh : Nat → Nat × Nat) : Nat → Nat
  | 0 => 0
  | n + 1 => x_sl sh n + (sh n).2
theorem x_sl_mono {sh : Nat → Nat × Nat} {a : Nat} : ∀ {b : Nat}, a ≤ b → x_sl sh a ≤ x_sl sh b
  | 0, h => by rw [Nat.le_zero.mp h]; exact Nat.le_refl _
  | b + 1, h => by
    rcases Nat.lt_or_ge b a with h1 | h1
    · rw [show a = b + 1 by omega]; exact Nat.le_refl _
    · exact Nat.le_trans (x_sl_mono h1) (Nat.le_add_right _ _)
/-! the ways on: in the run, and in words -/
def x_fn {α : Type} (n : Nat) (k : Nat → α) : α := match n with
  | 0 => k 0
  | Nat.succ m => k (Nat.succ m)
def x_fi {α : Type} (x : Int) (k : Int → α) : α := match x with
  | .ofNat n => x_fn n (fun m => k (.ofNat m))
  | .negSucc n => x_fn n (fun m => k (.negSucc m))
theorem x_fi_eq {α : Type} {x : Int} {k : Int → α} : x_fi x k = k x := by rcases x with n | n <;> cases n <;> rfl
theorem x_fn_eq {α : Type} {n : Nat} {k : Nat → α} : x_fn n k = k n := by cases n <;> rfl
/-- what is no sign: a number that is one of the machine's -/
def x_li (x : Int) : Bool := match x with
  | .ofNat n => Nat.ble n 1000000000000000000000000000000
  | .negSucc _ => true
def x_ln (n : Nat) : Bool := Nat.ble n 1000000000000000000000000000000
def x_eI {α : Type} (st : List e_V) (fl : α) (k : Int → List e_V → α) : α := match st with
  | .inl x :: r => k x r
  | _ => fl
def x_eL {α : Type} (st : List e_V) (fl : α) (k : Int → List e_V → α) : α := match st with
  | .inr (.inl x) :: r => k x r
  | _ => fl
def x_eA {α : Type} (st : List e_V) (fl : α) (k : Nat → List e_V → α) : α := match st with
  | .inr (.inr (.inl (.ofNat n))) :: r => (match x_ln n with
    | true => k n r
    | false => fl)
  | _ => fl
/-- what is not a long -/
def x_eS {α : Type} (st : List e_V) (fl : α) (k : e_V → List e_V → α) : α := match st with
  | .inl x :: r => k (.inl x) r
  | .inr (.inr (.inl x)) :: r => k (.inr (.inr (.inl x))) r
  | _ => fl
/-- an int that is an index -/
def x_eN {α : Type} (st : List e_V) (fl : α) (k : Nat → List e_V → α) : α := match st with
  | .inl (.ofNat n) :: r => (match x_ln n with
    | true => k n r
    | false => fl)
  | _ => fl
/-- a value by its tag -/
def x_eT {α : Type} (c : Nat) (st : List e_V) (fl : α) (k : Int → List e_V → α) : α := match c with
  | 0 => x_eI st fl k
  | 1 => x_eI st fl fun x r => match x with
    | .ofNat 0 => k (.ofNat 0) r
    | .ofNat 1 => k (.ofNat 1) r
    | _ => fl
  | 3 => x_eL st fl k
  | 4 => x_eA st fl (fun n r => k (.ofNat n) r)
  | _ => fl
def x_eO {α : Type} (o : x_O) (k : Nat → Nat → Int → List Int → α) : α := match o with
  | (kd, n, d, cs) => k kd n d cs
section ELIM
variable {β : Type} {st : List e_V} {fl : β}
theorem x_eI_b {k : Int → List e_V → β} (h : x_eI st fl k ≠ fl) : ∃ x st', st = .inl x :: st' := by
  unfold x_eI at h
  split at h
  · exact ⟨_, _, rfl⟩
  · exact absurd rfl h
theorem x_eL_b {k : Int → List e_V → β} (h : x_eL st fl k ≠ fl) : ∃ x st', st = .inr (.inl x) :: st' := by
  unfold x_eL at h
  split at h
  · exact ⟨_, _, rfl⟩
  · exact absurd rfl h
theorem x_eA_b {k : Nat → List e_V → β} (h : x_eA st fl k ≠ fl) : ∃ n st', st = .inr (.inr (.inl (.ofNat n))) :: st' ∧ x_ln n = true := by
  unfold x_eA at h
  split at h
  · split at h
    · rename_i q; exact ⟨_, _, rfl, q⟩
    · exact absurd rfl h
  · exact absurd rfl h
theorem x_eN_b {k : Nat → List e_V → β} (h : x_eN st fl k ≠ fl) : ∃ n st', st = .inl (.ofNat n) :: st' ∧ x_ln n = true := by
  unfold x_eN at h
  split at h
  · split at h
    · rename_i q; exact ⟨_, _, rfl, q⟩
    · exact absurd rfl h
  · exact absurd rfl h
theorem x_eS_b {k : e_V → List e_V → β} (h : x_eS st fl k ≠ fl) : ∃ v st', st = v :: st' ∧ (∀ x, v ≠ .inr (.inl x)) ∧ v ≠ .inr (.inr (.inr ())) := by
  unfold x_eS at h
  split at h
  · exact ⟨_, _, rfl, (fun x e => by cases e), (fun e => by cases e)⟩
  · exact ⟨_, _, rfl, (fun x e => by cases e), (fun e => by cases e)⟩
  · exact absurd rfl h
theorem x_eI_e {x : Int} {r : List e_V} {k : Int → List e_V → β} : x_eI (.inl x :: r) fl k = k x r := rfl
theorem x_eL_e {x : Int} {r : List e_V} {k : Int → List e_V → β} : x_eL (.inr (.inl x) :: r) fl k = k x r := rfl
theorem x_eA_e {n : Nat} {r : List e_V} {k : Nat → List e_V → β} (h : x_ln n = true) : x_eA (.inr (.inr (.inl (.ofNat n))) :: r) fl k = k n r := by
  show (match x_ln n with
    | true => k n r
    | false => fl) = k n r
  rw [h]
theorem x_eN_e {n : Nat} {r : List e_V} {k : Nat → List e_V → β} (h : x_ln n = true) : x_eN (.inl (.ofNat n) :: r) fl k = k n r := by
  show (match x_ln n with
    | true => k n r
    | false => fl) = k n r
  rw [h]
theorem x_eS_e {v : e_V} {r : List e_V} {k : e_V → List e_V → β} (h1 : ∀ x, v ≠ .inr (.inl x)) (h2 : v ≠ .inr (.inr (.inr ()))) : x_eS (v :: r) fl k = k v r := by
  rcases v with x | x | x | x
  · rfl
  · exact absurd rfl (h1 x)
  · rfl
  · exact absurd rfl h2
theorem x_eO_e {o : x_O} {k : Nat → Nat → Int → List Int → β} : x_eO o k = k o.1 o.2.1 o.2.2.1 o.2.2.2 := rfl
def x_tx (c : Nat) (x : Int) : Prop := c = 0 ∨ (c = 1 ∧ (x = 0 ∨ x = 1)) ∨ c = 3 ∨ (c = 4 ∧ ∃ n : Nat, x = .ofNat n ∧ x_ln n = true)
theorem x_eT_e {c : Nat} {x : Int} {r : List e_V} {k : Int → List e_V → β} (h : x_tx c x) : x_eT c (e_val c x :: r) fl k = k x r := by
  rcases h with rfl | ⟨rfl, rfl | rfl⟩ | rfl | ⟨rfl, n, rfl, h⟩
  · rfl
  · rfl
  · rfl
  · rfl
  · have e : e_val 4 (Int.ofNat n) = .inr (.inr (.inl (.ofNat n))) := rfl
    rw [e]
    unfold x_eT
    exact x_eA_e h
theorem x_eT_b {c : Nat} {k : Int → List e_V → β} (h : x_eT c st fl k ≠ fl) : ∃ x st', st = e_val c x :: st' ∧ x_tx c x := by
  unfold x_eT at h
  split at h
  · obtain ⟨x, s, e⟩ := x_eI_b h; exact ⟨x, s, e, Or.inl rfl⟩
  · obtain ⟨x, s, e⟩ := x_eI_b h
    subst e
    rw [x_eI_e] at h
    split at h
    · exact ⟨_, s, rfl, Or.inr (Or.inl ⟨rfl, Or.inl rfl⟩)⟩
    · exact ⟨_, s, rfl, Or.inr (Or.inl ⟨rfl, Or.inr rfl⟩)⟩
    · exact absurd rfl h
  · obtain ⟨x, s, e⟩ := x_eL_b h; exact ⟨x, s, e, Or.inr (Or.inr (Or.inl rfl))⟩
  · obtain ⟨x, s, e, q⟩ := x_eA_b h; exact ⟨_, s, e, Or.inr (Or.inr (Or.inr ⟨rfl, x, rfl, q⟩))⟩
  · exact absurd rfl h
end ELIM
/-- a new object's slots -/
def x_tms : List (List Int) := [[-1, -1, 0, -1, -1, -1, -1],
  [0, -1, 0, -1, -1, -1, -1],
  [0, 0, 0, 0, 0, -1, -1, 0, 0, 0, 0, 0, 0, -1, -1, 0, -1, -1, 0],
  [-1, -1, 0],
  [0, 0, 0, -1, -1, -1, -1, -1, 0],
  [-1, -1, -1, -1, -1, 0, -1, -1, -1, -1, -1, 0],
  [-1, 0, 0, 0, 0, 0, -1, -1, 0, 0, 0],
  [-1, -1, -1, -1, 0, 0, 0, 0, 0, -1, 0, 0],
  [-1, 0],
  [0, 0, 0, 0, 0, 0, 0, 0, 0, -1, -1, -1, 0, 0],
  [-1, -1, -1, -1, -1, -1, -1, -1, -1, 0, 0, 0, 0, 0, 0],
  [-1, 0, 0, 0, 0, 0, -1, 0, -1, -1, -1, -1, -1, -1, -1],
  [-1, -1, -1, -1, 0, 0, 0, 0, 0, 0, 0, 0, 0, 0, -1, -1, -1, -1, -1, -1, -1, -1, -1, -1, -1, -1, -1, -1, -1, -1, -1, -1, -1, 0, 0, 0, 0, 0, 0, 0, -1, -1, 0, 0, 0, 0, 0, 0, 0, -1, -1, -1, -1, -1, -1, -1, -1, -1, -1, -1, -1, -1, -1, -1, -1, -1, -1, -1, -1, -1, -1, -1, -1, 0, -1, -1, -1, -1, -1, -1, -1, -1, -1, -1, -1, 0, 0, 0, -1, -1, -1, -1, -1, -1, -1, -1, -1, -1, 0, 0, 0, 0, 0, 0, 0, -1, -1, -1, -1, 0, 0, 0, 0, 0, 0, 0, 0, -1, 0, -1, 0, 0, 0]]
theorem x_tms_ok : ∀ kd, kd < 13 → ∀ k, k < e_num kd → x_get 0 (x_get [] x_tms kd) k = e_df kd k := by decide +kernel
/-! numbers as the machine has them -/
def x_brP (c : Bool) (A B : Prop) : Prop := (c = true → A) ∧ (c = false → B)
theorem x_brP_t {c : Bool} {A : Prop} (h : x_brP c A False) : c = true ∧ A := by
  cases c
  · exact (h.2 rfl).elim
  · exact ⟨rfl, h.1 rfl⟩
theorem x_brP_i {c : Bool} {A B : Prop} (hc : c = true) (h : A) : x_brP c A B := ⟨fun _ => h, fun e => by rw [hc] at e; cases e⟩
theorem x_brP_1 {c : Bool} {A B : Prop} (hc : c = true) (h : A) : x_brP c A B := ⟨fun _ => h, fun e => by rw [hc] at e; cases e⟩
theorem x_brP_2 {c : Bool} {A B : Prop} (hc : c = false) (h : B) : x_brP c A B := ⟨fun e => (by rw [hc] at e; cases e), fun _ => h⟩
def x_eq (x y : Int) : Bool := match x, y with
  | .ofNat m, .ofNat n => Nat.beq m n
  | .negSucc m, .negSucc n => Nat.beq m n
  | _, _ => false
theorem x_eq_iff {x y : Int} : x_eq x y = true ↔ x = y := by
  rcases x with m | m <;> rcases y with n | n <;> simp [x_eq] <;> omega
def x_lt (x y : Int) : Bool := match x, y with
  | .ofNat m, .ofNat n => Nat.blt m n
  | .negSucc m, .negSucc n => Nat.blt n m
  | .negSucc _, .ofNat _ => true
  | .ofNat _, .negSucc _ => false
theorem x_lt_iff {x y : Int} : x_lt x y = true ↔ x < y := by
  rcases x with m | m <;> rcases y with n | n <;> simp [x_lt, Nat.blt_eq] <;> omega
def x_cd (b : Nat) (x y : Int) : Bool := match b with
  | 0 => x_eq x y
  | 1 => !(x_eq x y)
  | 2 => x_lt x y
  | 3 => !(x_lt x y)
  | 4 => x_lt y x
  | _ => !(x_lt y x)
def x_nz (y : Int) : Bool := match y with
  | .ofNat 0 => false
  | _ => true
theorem x_nz_ok {y : Int} (h : x_nz y = true) : ¬ y = 0 := by rintro rfl; cases h
def x_ck (b : Nat) (y : Int) : Bool := match b with
  | 3 => x_nz y && x_li y
  | 4 => x_nz y && x_li y
  | _ => true
def x_bf (b : Nat) (x y : Int) : Int := match b with
  | 0 => e_w32 (x + y)
  | 1 => e_w32 (x - y)
  | 2 => e_w32 (x * y)
  | 3 => e_w32 (x.tdiv y)
  | 4 => x.tmod y
  | 5 => (Int32.ofInt x &&& Int32.ofInt y).toInt
  | 6 => (Int32.ofInt x ||| Int32.ofInt y).toInt
  | 7 => (Int32.ofInt x ^^^ Int32.ofInt y).toInt
  | 8 => (Int32.ofInt x <<< (Int32.ofInt y &&& 31)).toInt
  | _ => (Int32.ofInt x >>> (Int32.ofInt y &&& 31)).toInt
def x_lf (b : Nat) (x y : Int) : Int := match b with
  | 0 => e_w64 (x + y)
  | 1 => e_w64 (x - y)
  | 2 => e_w64 (x * y)
  | 3 => e_w64 (x.tdiv y)
  | 4 => x.tmod y
  | 5 => (Int64.ofInt x &&& Int64.ofInt y).toInt
  | 6 => (Int64.ofInt x ||| Int64.ofInt y).toInt
  | _ => (Int64.ofInt x ^^^ Int64.ofInt y).toInt
def x_hf (b : Nat) (x y : Int) : Int := match b with
  | 0 => (Int64.ofInt x <<< ((Int32.ofInt y).toInt64 &&& 63)).toInt
  | 1 => (Int64.ofInt x >>> ((Int32.ofInt y).toInt64 &&& 63)).toInt
  | _ => (((Int64.ofInt x).toUInt64 >>> ((Int32.ofInt y).toInt64.toUInt64 &&& Int64.toUInt64 63)).toInt64).toInt
def x_uf (b : Nat) (x : Int) : Int := match b with
  | 0 => e_w32 (-x)
  | _ => e_w8 x
def x_mf (b : Nat) (x y : Int) : Int := match b with
  | 0 => cond (x_lt y x) y x
  | _ => cond (x_lt x y) y x
def x_vf (cls b : Nat) (x y : Int) : Int := match cls with
  | 39 => x_mf b x y
  | 8 => e_w32 (x + y)
  | 9 => x_bf b x y
  | 10 => x_lf b x y
  | 11 => x_hf b x y
  | 12 => x_uf b x
  | 13 => e_w64 (-x)
  | 15 => e_w32 x
  | 16 => e_cmp x y
  | _ => e_w8 x
def x_aw (top n : Nat) : Bool := Nat.blt n top && Nat.blt n 1000000
def x_al (top n : Nat) : Bool := x_aw top n || (Nat.ble 1000001 n && Nat.blt n 1000063)
theorem x_aw_ok {top n : Nat} (h : x_aw top n = true) : n < top ∧ n < 1000000 := by
  unfold x_aw at h
  rw [Bool.and_eq_true, Nat.blt_eq, Nat.blt_eq] at h
  exact h
theorem x_al_ok {top n : Nat} (h : x_al top n = true) : e_al top n ∧ n ≠ 1000000 := by
  unfold x_al at h
  rw [Bool.or_eq_true, Bool.and_eq_true, Nat.blt_eq, Nat.ble_eq] at h
  rcases h with h | h
  · have := x_aw_ok h; exact ⟨Or.inl this.1, by omega⟩
  · exact ⟨Or.inr ⟨by omega, by omega⟩, by omega⟩
def x_ak (b kd : Nat) : Bool := match b with
  | 0 => Nat.beq kd 20
  | 1 => Nat.beq kd 23
  | 2 => Nat.beq kd 22 || Nat.beq kd 21
  | _ => Nat.ble 30 kd
def x_ka (kd kv : Nat) : Bool := Nat.ble 30 kd && (Nat.blt kd 43 && Nat.beq kv (kd - 30))
def x_01 (x : Int) : Bool := match x with
  | .ofNat 0 => true
  | .ofNat 1 => true
  | _ => false
theorem x_01_ok {x : Int} (h : x_01 x = true) : x = 0 ∨ x = 1 := by
  unfold x_01 at h
  split at h
  · exact Or.inl rfl
  · exact Or.inr rfl
  · cases h
def x_sk (q : Nat × Nat) (a b : Nat) : Bool := Nat.beq q.1 a && Nat.beq q.2 b
theorem x_sk_ok {q : Nat × Nat} {a b : Nat} (h : x_sk q a b = true) : q = (a, b) := by
  unfold x_sk at h
  rw [Bool.and_eq_true] at h
  exact Prod.ext (Nat.eq_of_beq_eq_true h.1) (Nat.eq_of_beq_eq_true h.2)
def x_as (x : Int) : Bool := match x with
  | .ofNat n => Nat.blt n 128
  | _ => false
def x_tl (c : Nat) (x : Int) : Bool := match c with
  | 4 => x_li x
  | _ => true
def x_is (n : Nat) : Bool := Nat.ble 1000005 n && Nat.blt n 1000034
/-- a choice by a list -/
def x_sw {α : Type} (fl : α) (bs : Nat → Int → Int → α → α → α) (P : Nat → Nat → α) (dp dj : Nat) (x : Int) : List (Int × Nat × Nat) → α
  | [] => P dp dj
  | (k, p, j) :: r => cond (x_li k) (bs 0 x k (P p j) (x_sw fl bs P dp dj x r)) fl
def x_s0 {α : Type} (fl : α) (br : Bool → α → α → α) (bs : Nat → Int → Int → α → α → α) (ar : Nat → Nat → Int → Int → (Int → α) → α) (K : Nat → Nat → List e_V → List e_V → x_M → Nat → α) (B : Nat → x_O) (S0 : Nat → Nat × Nat) (pc a b c : Nat) (z : Int) (t : List (Int × Nat × Nat)) (ls st : List e_V) (M : x_M) (top : Nat) : α :=
  br (x_li z) (K 0 (pc + a) ls (.inl z :: st) M top) fl
def x_s1 {α : Type} (fl : α) (br : Bool → α → α → α) (bs : Nat → Int → Int → α → α → α) (ar : Nat → Nat → Int → Int → (Int → α) → α) (K : Nat → Nat → List e_V → List e_V → x_M → Nat → α) (B : Nat → x_O) (S0 : Nat → Nat × Nat) (pc a b c : Nat) (z : Int) (t : List (Int × Nat × Nat)) (ls st : List e_V) (M : x_M) (top : Nat) : α :=
  br (x_li z) (K 0 (pc + a) ls (.inr (.inl z) :: st) M top) fl
def x_s2 {α : Type} (fl : α) (br : Bool → α → α → α) (bs : Nat → Int → Int → α → α → α) (ar : Nat → Nat → Int → Int → (Int → α) → α) (K : Nat → Nat → List e_V → List e_V → x_M → Nat → α) (B : Nat → x_O) (S0 : Nat → Nat × Nat) (pc a b c : Nat) (z : Int) (t : List (Int × Nat × Nat)) (ls st : List e_V) (M : x_M) (top : Nat) : α :=
  x_eI [x_get (.inr (.inr (.inr ()))) ls b] fl fun x r => K 0 (pc + a) ls (.inl x :: st) M top
def x_s3 {α : Type} (fl : α) (br : Bool → α → α → α) (bs : Nat → Int → Int → α → α → α) (ar : Nat → Nat → Int → Int → (Int → α) → α) (K : Nat → Nat → List e_V → List e_V → x_M → Nat → α) (B : Nat → x_O) (S0 : Nat → Nat × Nat) (pc a b c : Nat) (z : Int) (t : List (Int × Nat × Nat)) (ls st : List e_V) (M : x_M) (top : Nat) : α :=
  x_eL [x_get (.inr (.inr (.inr ()))) ls b] fl fun x r => K 0 (pc + a) ls (.inr (.inl x) :: st) M top
def x_s4 {α : Type} (fl : α) (br : Bool → α → α → α) (bs : Nat → Int → Int → α → α → α) (ar : Nat → Nat → Int → Int → (Int → α) → α) (K : Nat → Nat → List e_V → List e_V → x_M → Nat → α) (B : Nat → x_O) (S0 : Nat → Nat × Nat) (pc a b c : Nat) (z : Int) (t : List (Int × Nat × Nat)) (ls st : List e_V) (M : x_M) (top : Nat) : α :=
  x_eA [x_get (.inr (.inr (.inr ()))) ls b] fl fun x r => K 0 (pc + a) ls (.inr (.inr (.inl (.ofNat x))) :: st) M top
def x_s5 {α : Type} (fl : α) (br : Bool → α → α → α) (bs : Nat → Int → Int → α → α → α) (ar : Nat → Nat → Int → Int → (Int → α) → α) (K : Nat → Nat → List e_V → List e_V → x_M → Nat → α) (B : Nat → x_O) (S0 : Nat → Nat × Nat) (pc a b c : Nat) (z : Int) (t : List (Int × Nat × Nat)) (ls st : List e_V) (M : x_M) (top : Nat) : α :=
  x_eI st fl fun x r => x_l1 ls b (.inl x) fun l => K 0 (pc + a) l r M top
def x_s6 {α : Type} (fl : α) (br : Bool → α → α → α) (bs : Nat → Int → Int → α → α → α) (ar : Nat → Nat → Int → Int → (Int → α) → α) (K : Nat → Nat → List e_V → List e_V → x_M → Nat → α) (B : Nat → x_O) (S0 : Nat → Nat × Nat) (pc a b c : Nat) (z : Int) (t : List (Int × Nat × Nat)) (ls st : List e_V) (M : x_M) (top : Nat) : α :=
  x_eL st fl fun x r => x_l2 ls b (.inr (.inl x)) fun l => K 0 (pc + a) l r M top
def x_s7 {α : Type} (fl : α) (br : Bool → α → α → α) (bs : Nat → Int → Int → α → α → α) (ar : Nat → Nat → Int → Int → (Int → α) → α) (K : Nat → Nat → List e_V → List e_V → x_M → Nat → α) (B : Nat → x_O) (S0 : Nat → Nat × Nat) (pc a b c : Nat) (z : Int) (t : List (Int × Nat × Nat)) (ls st : List e_V) (M : x_M) (top : Nat) : α :=
  x_eA st fl fun x r => x_l1 ls b (.inr (.inr (.inl (.ofNat x)))) fun l => K 0 (pc + a) l r M top
def x_s8 {α : Type} (fl : α) (br : Bool → α → α → α) (bs : Nat → Int → Int → α → α → α) (ar : Nat → Nat → Int → Int → (Int → α) → α) (K : Nat → Nat → List e_V → List e_V → x_M → Nat → α) (B : Nat → x_O) (S0 : Nat → Nat × Nat) (pc a b c : Nat) (z : Int) (t : List (Int × Nat × Nat)) (ls st : List e_V) (M : x_M) (top : Nat) : α :=
  x_eI [x_get (.inr (.inr (.inr ()))) ls b] fl fun x r => br (x_li z) (ar 8 0 x z fun w => x_l1 ls b (.inl w) fun l => K 0 (pc + 3) l st M top) fl
def x_s9 {α : Type} (fl : α) (br : Bool → α → α → α) (bs : Nat → Int → Int → α → α → α) (ar : Nat → Nat → Int → Int → (Int → α) → α) (K : Nat → Nat → List e_V → List e_V → x_M → Nat → α) (B : Nat → x_O) (S0 : Nat → Nat × Nat) (pc a b c : Nat) (z : Int) (t : List (Int × Nat × Nat)) (ls st : List e_V) (M : x_M) (top : Nat) : α :=
  x_eI st fl fun y r => x_eI r fl fun x r2 => br (x_ck b y) (ar 9 b x y fun w => K 0 (pc + 1) ls (.inl w :: r2) M top) fl
def x_s10 {α : Type} (fl : α) (br : Bool → α → α → α) (bs : Nat → Int → Int → α → α → α) (ar : Nat → Nat → Int → Int → (Int → α) → α) (K : Nat → Nat → List e_V → List e_V → x_M → Nat → α) (B : Nat → x_O) (S0 : Nat → Nat × Nat) (pc a b c : Nat) (z : Int) (t : List (Int × Nat × Nat)) (ls st : List e_V) (M : x_M) (top : Nat) : α :=
  x_eL st fl fun y r => x_eL r fl fun x r2 => br (x_ck b y) (ar 10 b x y fun w => K 0 (pc + 1) ls (.inr (.inl w) :: r2) M top) fl
def x_s11 {α : Type} (fl : α) (br : Bool → α → α → α) (bs : Nat → Int → Int → α → α → α) (ar : Nat → Nat → Int → Int → (Int → α) → α) (K : Nat → Nat → List e_V → List e_V → x_M → Nat → α) (B : Nat → x_O) (S0 : Nat → Nat × Nat) (pc a b c : Nat) (z : Int) (t : List (Int × Nat × Nat)) (ls st : List e_V) (M : x_M) (top : Nat) : α :=
  x_eI st fl fun y r => x_eL r fl fun x r2 => ar 11 b x y fun w => K 0 (pc + 1) ls (.inr (.inl w) :: r2) M top
def x_s12 {α : Type} (fl : α) (br : Bool → α → α → α) (bs : Nat → Int → Int → α → α → α) (ar : Nat → Nat → Int → Int → (Int → α) → α) (K : Nat → Nat → List e_V → List e_V → x_M → Nat → α) (B : Nat → x_O) (S0 : Nat → Nat × Nat) (pc a b c : Nat) (z : Int) (t : List (Int × Nat × Nat)) (ls st : List e_V) (M : x_M) (top : Nat) : α :=
  x_eI st fl fun x r => ar 12 b x 0 fun w => K 0 (pc + 1) ls (.inl w :: r) M top
def x_s13 {α : Type} (fl : α) (br : Bool → α → α → α) (bs : Nat → Int → Int → α → α → α) (ar : Nat → Nat → Int → Int → (Int → α) → α) (K : Nat → Nat → List e_V → List e_V → x_M → Nat → α) (B : Nat → x_O) (S0 : Nat → Nat × Nat) (pc a b c : Nat) (z : Int) (t : List (Int × Nat × Nat)) (ls st : List e_V) (M : x_M) (top : Nat) : α :=
  x_eL st fl fun x r => ar 13 0 x 0 fun w => K 0 (pc + 1) ls (.inr (.inl w) :: r) M top
def x_s14 {α : Type} (fl : α) (br : Bool → α → α → α) (bs : Nat → Int → Int → α → α → α) (ar : Nat → Nat → Int → Int → (Int → α) → α) (K : Nat → Nat → List e_V → List e_V → x_M → Nat → α) (B : Nat → x_O) (S0 : Nat → Nat × Nat) (pc a b c : Nat) (z : Int) (t : List (Int × Nat × Nat)) (ls st : List e_V) (M : x_M) (top : Nat) : α :=
  x_eI st fl fun x r => K 0 (pc + 1) ls (.inr (.inl x) :: r) M top
def x_s15 {α : Type} (fl : α) (br : Bool → α → α → α) (bs : Nat → Int → Int → α → α → α) (ar : Nat → Nat → Int → Int → (Int → α) → α) (K : Nat → Nat → List e_V → List e_V → x_M → Nat → α) (B : Nat → x_O) (S0 : Nat → Nat × Nat) (pc a b c : Nat) (z : Int) (t : List (Int × Nat × Nat)) (ls st : List e_V) (M : x_M) (top : Nat) : α :=
  x_eL st fl fun x r => ar 15 0 x 0 fun w => K 0 (pc + 1) ls (.inl w :: r) M top
def x_s16 {α : Type} (fl : α) (br : Bool → α → α → α) (bs : Nat → Int → Int → α → α → α) (ar : Nat → Nat → Int → Int → (Int → α) → α) (K : Nat → Nat → List e_V → List e_V → x_M → Nat → α) (B : Nat → x_O) (S0 : Nat → Nat × Nat) (pc a b c : Nat) (z : Int) (t : List (Int × Nat × Nat)) (ls st : List e_V) (M : x_M) (top : Nat) : α :=
  x_eL st fl fun y r => x_eL r fl fun x r2 => ar 16 0 x y fun w => K 0 (pc + 1) ls (.inl w :: r2) M top
def x_s17 {α : Type} (fl : α) (br : Bool → α → α → α) (bs : Nat → Int → Int → α → α → α) (ar : Nat → Nat → Int → Int → (Int → α) → α) (K : Nat → Nat → List e_V → List e_V → x_M → Nat → α) (B : Nat → x_O) (S0 : Nat → Nat × Nat) (pc a b c : Nat) (z : Int) (t : List (Int × Nat × Nat)) (ls st : List e_V) (M : x_M) (top : Nat) : α :=
  x_eI st fl fun x r => bs b x 0 (K c a ls r M top) (K 0 (pc + 3) ls r M top)
def x_s18 {α : Type} (fl : α) (br : Bool → α → α → α) (bs : Nat → Int → Int → α → α → α) (ar : Nat → Nat → Int → Int → (Int → α) → α) (K : Nat → Nat → List e_V → List e_V → x_M → Nat → α) (B : Nat → x_O) (S0 : Nat → Nat × Nat) (pc a b c : Nat) (z : Int) (t : List (Int × Nat × Nat)) (ls st : List e_V) (M : x_M) (top : Nat) : α :=
  x_eI st fl fun y r => x_eI r fl fun x r2 => bs b x y (K c a ls r2 M top) (K 0 (pc + 3) ls r2 M top)
def x_s19 {α : Type} (fl : α) (br : Bool → α → α → α) (bs : Nat → Int → Int → α → α → α) (ar : Nat → Nat → Int → Int → (Int → α) → α) (K : Nat → Nat → List e_V → List e_V → x_M → Nat → α) (B : Nat → x_O) (S0 : Nat → Nat × Nat) (pc a b c : Nat) (z : Int) (t : List (Int × Nat × Nat)) (ls st : List e_V) (M : x_M) (top : Nat) : α :=
  K c a ls st M top
def x_s20 {α : Type} (fl : α) (br : Bool → α → α → α) (bs : Nat → Int → Int → α → α → α) (ar : Nat → Nat → Int → Int → (Int → α) → α) (K : Nat → Nat → List e_V → List e_V → x_M → Nat → α) (B : Nat → x_O) (S0 : Nat → Nat × Nat) (pc a b c : Nat) (z : Int) (t : List (Int × Nat × Nat)) (ls st : List e_V) (M : x_M) (top : Nat) : α :=
  x_eS st fl fun v r => K 0 (pc + 1) ls (v :: v :: r) M top
def x_s21 {α : Type} (fl : α) (br : Bool → α → α → α) (bs : Nat → Int → Int → α → α → α) (ar : Nat → Nat → Int → Int → (Int → α) → α) (K : Nat → Nat → List e_V → List e_V → x_M → Nat → α) (B : Nat → x_O) (S0 : Nat → Nat × Nat) (pc a b c : Nat) (z : Int) (t : List (Int × Nat × Nat)) (ls st : List e_V) (M : x_M) (top : Nat) : α :=
  x_eS st fl fun v r => K 0 (pc + 1) ls r M top
def x_s22 {α : Type} (fl : α) (br : Bool → α → α → α) (bs : Nat → Int → Int → α → α → α) (ar : Nat → Nat → Int → Int → (Int → α) → α) (K : Nat → Nat → List e_V → List e_V → x_M → Nat → α) (B : Nat → x_O) (S0 : Nat → Nat × Nat) (pc a b c : Nat) (z : Int) (t : List (Int × Nat × Nat)) (ls st : List e_V) (M : x_M) (top : Nat) : α :=
  x_eL st fl fun x r => K 0 (pc + 1) ls r M top
def x_s23 {α : Type} (fl : α) (br : Bool → α → α → α) (bs : Nat → Int → Int → α → α → α) (ar : Nat → Nat → Int → Int → (Int → α) → α) (K : Nat → Nat → List e_V → List e_V → x_M → Nat → α) (B : Nat → x_O) (S0 : Nat → Nat × Nat) (pc a b c : Nat) (z : Int) (t : List (Int × Nat × Nat)) (ls st : List e_V) (M : x_M) (top : Nat) : α :=
  x_eS st fl fun v r => x_eS r fl fun u r2 => K 0 (pc + 1) ls (v :: u :: v :: u :: r2) M top
def x_s24 {α : Type} (fl : α) (br : Bool → α → α → α) (bs : Nat → Int → Int → α → α → α) (ar : Nat → Nat → Int → Int → (Int → α) → α) (K : Nat → Nat → List e_V → List e_V → x_M → Nat → α) (B : Nat → x_O) (S0 : Nat → Nat × Nat) (pc a b c : Nat) (z : Int) (t : List (Int × Nat × Nat)) (ls st : List e_V) (M : x_M) (top : Nat) : α :=
  x_eI st fl fun x r => x_sw fl bs (fun p j => K j p ls r M top) a c x t
def x_s25 {α : Type} (fl : α) (br : Bool → α → α → α) (bs : Nat → Int → Int → α → α → α) (ar : Nat → Nat → Int → Int → (Int → α) → α) (K : Nat → Nat → List e_V → List e_V → x_M → Nat → α) (B : Nat → x_O) (S0 : Nat → Nat × Nat) (pc a b c : Nat) (z : Int) (t : List (Int × Nat × Nat)) (ls st : List e_V) (M : x_M) (top : Nat) : α :=
  x_eA st fl fun n r => x_eO (x_rd B M n) fun kd len d cs => br (x_al top n && (Nat.beq kd a && (Nat.blt b len && (x_li d && x_tl c (x_get d cs b))))) (x_fi (x_get d cs b) fun w => K 0 (pc + 3) ls (e_val c w :: r) M top) fl
def x_s26 {α : Type} (fl : α) (br : Bool → α → α → α) (bs : Nat → Int → Int → α → α → α) (ar : Nat → Nat → Int → Int → (Int → α) → α) (K : Nat → Nat → List e_V → List e_V → x_M → Nat → α) (B : Nat → x_O) (S0 : Nat → Nat × Nat) (pc a b c : Nat) (z : Int) (t : List (Int × Nat × Nat)) (ls st : List e_V) (M : x_M) (top : Nat) : α :=
  x_eT c st fl fun x r => x_eA r fl fun n r2 => x_eO (x_rd B M n) fun kd len d cs => br (x_aw top n && (Nat.beq kd a && (Nat.blt b len && x_li d))) (x_sek d x b cs fun cs2 => x_puk M n (kd, len, d, cs2) fun M2 => K 0 (pc + 3) ls r2 M2 top) fl
def x_s27 {α : Type} (fl : α) (br : Bool → α → α → α) (bs : Nat → Int → Int → α → α → α) (ar : Nat → Nat → Int → Int → (Int → α) → α) (K : Nat → Nat → List e_V → List e_V → x_M → Nat → α) (B : Nat → x_O) (S0 : Nat → Nat × Nat) (pc a b c : Nat) (z : Int) (t : List (Int × Nat × Nat)) (ls st : List e_V) (M : x_M) (top : Nat) : α :=
  x_eN st fl fun i r => x_eA r fl fun n r2 => x_eO (x_rd B M n) fun kd len d cs => br (x_al top n && (x_ak b kd && (Nat.blt i len && (x_li d && x_tl c (x_get d cs i))))) (x_fi (x_get d cs i) fun w => K 0 (pc + 1) ls (e_val c w :: r2) M top) fl
def x_s28 {α : Type} (fl : α) (br : Bool → α → α → α) (bs : Nat → Int → Int → α → α → α) (ar : Nat → Nat → Int → Int → (Int → α) → α) (K : Nat → Nat → List e_V → List e_V → x_M → Nat → α) (B : Nat → x_O) (S0 : Nat → Nat × Nat) (pc a b c : Nat) (z : Int) (t : List (Int × Nat × Nat)) (ls st : List e_V) (M : x_M) (top : Nat) : α :=
  x_eT c st fl fun x r => x_eN r fl fun i r2 => x_eA r2 fl fun n r3 => x_eO (x_rd B M n) fun kd len d cs => br (x_aw top n && (x_ak b kd && (Nat.blt i len && x_li d))) (x_sek d x i cs fun cs2 => x_puk M n (kd, len, d, cs2) fun M2 => K 0 (pc + 1) ls r3 M2 top) fl
def x_s29 {α : Type} (fl : α) (br : Bool → α → α → α) (bs : Nat → Int → Int → α → α → α) (ar : Nat → Nat → Int → Int → (Int → α) → α) (K : Nat → Nat → List e_V → List e_V → x_M → Nat → α) (B : Nat → x_O) (S0 : Nat → Nat × Nat) (pc a b c : Nat) (z : Int) (t : List (Int × Nat × Nat)) (ls st : List e_V) (M : x_M) (top : Nat) : α :=
  x_eI st fl fun x r => x_eN r fl fun i r2 => x_eA r2 fl fun n r3 => x_eO (x_rd B M n) fun kd len d cs => br (x_aw top n && ((Nat.beq kd 22 || (Nat.beq kd 21 && x_01 x)) && (Nat.blt i len && x_li d))) (ar 29 0 x 0 fun w => x_sek d w i cs fun cs2 => x_puk M n (kd, len, d, cs2) fun M2 => K 0 (pc + 1) ls r3 M2 top) fl
def x_s30 {α : Type} (fl : α) (br : Bool → α → α → α) (bs : Nat → Int → Int → α → α → α) (ar : Nat → Nat → Int → Int → (Int → α) → α) (K : Nat → Nat → List e_V → List e_V → x_M → Nat → α) (B : Nat → x_O) (S0 : Nat → Nat × Nat) (pc a b c : Nat) (z : Int) (t : List (Int × Nat × Nat)) (ls st : List e_V) (M : x_M) (top : Nat) : α :=
  x_eA st fl fun x r => x_eN r fl fun i r2 => x_eA r2 fl fun n r3 => x_eO (x_rd B M x) fun kv lv dv cv => x_eO (x_rd B M n) fun kd len d cs => br (x_al top x && (x_aw top n && (x_ka kd kv && (Nat.blt i len && x_li d)))) (x_sek d (.ofNat x) i cs fun cs2 => x_puk M n (kd, len, d, cs2) fun M2 => K 0 (pc + 1) ls r3 M2 top) fl
def x_s31 {α : Type} (fl : α) (br : Bool → α → α → α) (bs : Nat → Int → Int → α → α → α) (ar : Nat → Nat → Int → Int → (Int → α) → α) (K : Nat → Nat → List e_V → List e_V → x_M → Nat → α) (B : Nat → x_O) (S0 : Nat → Nat × Nat) (pc a b c : Nat) (z : Int) (t : List (Int × Nat × Nat)) (ls st : List e_V) (M : x_M) (top : Nat) : α :=
  x_eA st fl fun n r => x_eO (x_rd B M n) fun kd len d cs => br (x_al top n && (Nat.ble 20 kd && Nat.blt len 2147483648)) (K 0 (pc + 1) ls (.inl (.ofNat len) :: r) M top) fl
def x_s32 {α : Type} (fl : α) (br : Bool → α → α → α) (bs : Nat → Int → Int → α → α → α) (ar : Nat → Nat → Int → Int → (Int → α) → α) (K : Nat → Nat → List e_V → List e_V → x_M → Nat → α) (B : Nat → x_O) (S0 : Nat → Nat × Nat) (pc a b c : Nat) (z : Int) (t : List (Int × Nat × Nat)) (ls st : List e_V) (M : x_M) (top : Nat) : α :=
  br (x_sk (S0 top) a b && Nat.blt top 1000000) (x_puk M top (a, b, 0, x_get [] x_tms a) fun M2 => x_fn (top + 1) fun t2 => K 0 (pc + 3) ls (.inr (.inr (.inl (.ofNat top))) :: st) M2 t2) fl
def x_s33 {α : Type} (fl : α) (br : Bool → α → α → α) (bs : Nat → Int → Int → α → α → α) (ar : Nat → Nat → Int → Int → (Int → α) → α) (K : Nat → Nat → List e_V → List e_V → x_M → Nat → α) (B : Nat → x_O) (S0 : Nat → Nat × Nat) (pc a b c : Nat) (z : Int) (t : List (Int × Nat × Nat)) (ls st : List e_V) (M : x_M) (top : Nat) : α :=
  x_eN st fl fun n r => br (x_sk (S0 top) a n && (Nat.ble n 100000 && Nat.blt top 1000000)) (x_puk M top (a, n, z, []) fun M2 => x_fn (top + 1) fun t2 => K 0 (pc + b) ls (.inr (.inr (.inl (.ofNat top))) :: r) M2 t2) fl
def x_s34 {α : Type} (fl : α) (br : Bool → α → α → α) (bs : Nat → Int → Int → α → α → α) (ar : Nat → Nat → Int → Int → (Int → α) → α) (K : Nat → Nat → List e_V → List e_V → x_M → Nat → α) (B : Nat → x_O) (S0 : Nat → Nat × Nat) (pc a b c : Nat) (z : Int) (t : List (Int × Nat × Nat)) (ls st : List e_V) (M : x_M) (top : Nat) : α :=
  x_eA st fl fun n r => br r.isEmpty (K 0 (pc + 3) ls [] M top) fl
def x_s35 {α : Type} (fl : α) (br : Bool → α → α → α) (bs : Nat → Int → Int → α → α → α) (ar : Nat → Nat → Int → Int → (Int → α) → α) (K : Nat → Nat → List e_V → List e_V → x_M → Nat → α) (B : Nat → x_O) (S0 : Nat → Nat × Nat) (pc a b c : Nat) (z : Int) (t : List (Int × Nat × Nat)) (ls st : List e_V) (M : x_M) (top : Nat) : α :=
  br (x_ln b) (K 0 (pc + a) ls (.inr (.inr (.inl (.ofNat b))) :: st) M top) fl
def x_s36 {α : Type} (fl : α) (br : Bool → α → α → α) (bs : Nat → Int → Int → α → α → α) (ar : Nat → Nat → Int → Int → (Int → α) → α) (K : Nat → Nat → List e_V → List e_V → x_M → Nat → α) (B : Nat → x_O) (S0 : Nat → Nat × Nat) (pc a b c : Nat) (z : Int) (t : List (Int × Nat × Nat)) (ls st : List e_V) (M : x_M) (top : Nat) : α :=
  x_eA st fl fun n r => x_eO (x_rd B M n) fun kd len d cs => x_eO (x_rd B M (n + 29)) fun k2 l2 d2 cs2 => br (x_is n && (Nat.beq kd 15 && (Nat.beq (len + 1000004) n && (Nat.beq k2 22 && (Nat.blt l2 2147483648 && Nat.ble (e_cat r) 8))))) (K 0 (pc + 3) ls (.inl (.ofNat l2) :: r) M top) fl
def x_s37 {α : Type} (fl : α) (br : Bool → α → α → α) (bs : Nat → Int → Int → α → α → α) (ar : Nat → Nat → Int → Int → (Int → α) → α) (K : Nat → Nat → List e_V → List e_V → x_M → Nat → α) (B : Nat → x_O) (S0 : Nat → Nat × Nat) (pc a b c : Nat) (z : Int) (t : List (Int × Nat × Nat)) (ls st : List e_V) (M : x_M) (top : Nat) : α :=
  x_eN st fl fun i r => x_eA r fl fun n r2 => x_eO (x_rd B M n) fun kd len d cs => x_eO (x_rd B M (n + 29)) fun k2 l2 d2 cs2 => br (x_is n && (Nat.beq kd 15 && (Nat.beq (len + 1000004) n && (Nat.beq k2 22 && (Nat.blt i l2 && (Nat.blt l2 2147483648 && (x_li d2 && (x_as (x_get d2 cs2 i) && Nat.ble (e_cat r2) 8)))))))) (x_fi (x_get d2 cs2 i) fun w => K 0 (pc + 3) ls (.inl w :: r2) M top) fl
def x_s38 {α : Type} (fl : α) (br : Bool → α → α → α) (bs : Nat → Int → Int → α → α → α) (ar : Nat → Nat → Int → Int → (Int → α) → α) (K : Nat → Nat → List e_V → List e_V → x_M → Nat → α) (B : Nat → x_O) (S0 : Nat → Nat × Nat) (pc a b c : Nat) (z : Int) (t : List (Int × Nat × Nat)) (ls st : List e_V) (M : x_M) (top : Nat) : α :=
  x_eO (x_rd B M b) fun kd len d cs => br (x_is b && (Nat.beq kd 15 && Nat.beq (len + 1000004) b)) (K 0 (pc + a) ls (.inr (.inr (.inl (.ofNat b))) :: st) M top) fl
def x_s39 {α : Type} (fl : α) (br : Bool → α → α → α) (bs : Nat → Int → Int → α → α → α) (ar : Nat → Nat → Int → Int → (Int → α) → α) (K : Nat → Nat → List e_V → List e_V → x_M → Nat → α) (B : Nat → x_O) (S0 : Nat → Nat × Nat) (pc a b c : Nat) (z : Int) (t : List (Int × Nat × Nat)) (ls st : List e_V) (M : x_M) (top : Nat) : α :=
  x_eT c st fl fun y r => x_eT c r fl fun x r2 => br (Nat.ble (e_cat r2) 8) (ar 39 b x y fun w => K 0 (pc + 3) ls (e_val c w :: r2) M top) fl
def x_sf {α : Type} (fl : α) (br : Bool → α → α → α) (bs : Nat → Int → Int → α → α → α) (ar : Nat → Nat → Int → Int → (Int → α) → α) (K : Nat → Nat → List e_V → List e_V → x_M → Nat → α) (B : Nat → x_O) (S0 : Nat → Nat × Nat) (pc a b c : Nat) (z : Int) (t : List (Int × Nat × Nat)) (ls st : List e_V) (M : x_M) (top : Nat) : α := fl
def x_st {α : Type} (op : Nat) : (fl : α) → (br : Bool → α → α → α) → (bs : Nat → Int → Int → α → α → α) → (ar : Nat → Nat → Int → Int → (Int → α) → α) → (K : Nat → Nat → List e_V → List e_V → x_M → Nat → α) → (B : Nat → x_O) → (S0 : Nat → Nat × Nat) → (pc a b c : Nat) → (z : Int) → (t : List (Int × Nat × Nat)) → (ls st : List e_V) → (M : x_M) → (top : Nat) → α := match op with
  | 0 => x_s0
  | 1 => x_s1
  | 2 => x_s2
  | 3 => x_s3
  | 4 => x_s4
  | 5 => x_s5
  | 6 => x_s6
  | 7 => x_s7
  | 8 => x_s8
  | 9 => x_s9
  | 10 => x_s10
  | 11 => x_s11
  | 12 => x_s12
  | 13 => x_s13
  | 14 => x_s14
  | 15 => x_s15
  | 16 => x_s16
  | 17 => x_s17
  | 18 => x_s18
  | 19 => x_s19
  | 20 => x_s20
  | 21 => x_s21
  | 22 => x_s22
  | 23 => x_s23
  | 24 => x_s24
  | 25 => x_s25
  | 26 => x_s26
  | 27 => x_s27
  | 28 => x_s28
  | 29 => x_s29
  | 30 => x_s30
  | 31 => x_s31
  | 32 => x_s32
  | 33 => x_s33
  | 34 => x_s34
  | 35 => x_s35
  | 36 => x_s36
  | 37 => x_s37
  | 38 => x_s38
  | 39 => x_s39
  | _ => x_sf
/-! the run's own ways on: what can't be computed is taken from a list, and written down; the same in words -/
abbrev x_Lg : Type := Nat × Nat × Int × Int × Int
abbrev x_Rs : Type := Option e_V × x_M × Nat
abbrev x_A : Type := List Int → Option (x_Rs × List Int × List x_Lg)
def x_fR : x_A := fun _ => none
def x_lg (e : x_Lg) (r : Option (x_Rs × List Int × List x_Lg)) : Option (x_Rs × List Int × List x_Lg) := match r with
  | none => none
  | some (q, o, l) => some (q, o, e :: l)
def x_brR (c : Bool) (A B : x_A) : x_A := cond c A B
def x_arR (cls b : Nat) (x y : Int) (k : Int → x_A) : x_A := cond (x_li x && x_li y) (x_fi (x_vf cls b x y) fun w => cond (x_li w) (k w) x_fR) (fun o => match o with
  | [] => none
  | z :: o2 => cond (x_li z) none (x_lg (cls, b, x, y, z) (k z o2)))
def x_bsR (b : Nat) (x y : Int) (A B : x_A) : x_A := cond (x_li x && x_li y) (cond (x_cd b x y) A B) (fun o => match o with
  | .ofNat 0 :: o2 => x_lg (17, b, x, y, 0) (B o2)
  | .ofNat 1 :: o2 => x_lg (17, b, x, y, 1) (A o2)
  | _ => none)
def x_arP (cls b : Nat) (x y : Int) (k : Int → Prop) : Prop := k (x_vf cls b x y)
def x_bsP (b : Nat) (x y : Int) (A B : Prop) : Prop := x_brP (x_cd b x y) A B
/-- what a sign stands for -/
def x_dn (ρ : Nat → Int) (x : Int) : Int := cond (x_li x) x (ρ x.toNat)
def x_dv (ρ : Nat → Int) (v : e_V) : e_V := match v with
  | .inl x => .inl (x_dn ρ x)
  | .inr (.inl x) => .inr (.inl (x_dn ρ x))
  | .inr (.inr (.inl x)) => .inr (.inr (.inl (x_dn ρ x)))
  | .inr (.inr (.inr u)) => .inr (.inr (.inr u))
def x_do (ρ : Nat → Int) (o : Option x_O) : Option x_O := match o with
  | none => none
  | some (kd, n, d, cs) => some (kd, n, d, cs.map (x_dn ρ))
def x_dM (ρ : Nat → Int) (M : x_M) : x_M := M.map (fun l => l.map (fun r => r.map (x_do ρ)))
def x_Bl (ρ : Nat → Int) (B : Nat → x_O) : Prop := ∀ n, (B n).2.2.2.map (x_dn ρ) = (B n).2.2.2
def x_ho (ρ : Nat → Int) (e : x_Lg) : Prop := match e.1 with
  | 17 => x_cd e.2.1 (x_dn ρ e.2.2.1) (x_dn ρ e.2.2.2.1) = x_eq e.2.2.2.2 1
  | cls => x_vf cls e.2.1 (x_dn ρ e.2.2.1) (x_dn ρ e.2.2.2.1) = x_dn ρ e.2.2.2.2
section DEN
variable {ρ : Nat → Int}
theorem x_dn_li {x : Int} (h : x_li x = true) : x_dn ρ x = x := by unfold x_dn; rw [h]; rfl
theorem x_dn_nat {n : Nat} (h : x_ln n = true) : x_dn ρ (.ofNat n) = .ofNat n := x_dn_li h
theorem x_dvI {x : Int} : x_dv ρ (.inl x) = .inl (x_dn ρ x) := rfl
theorem x_dvL {x : Int} : x_dv ρ (.inr (.inl x)) = .inr (.inl (x_dn ρ x)) := rfl
theorem x_dvA {n : Nat} (h : x_ln n = true) : x_dv ρ (.inr (.inr (.inl (.ofNat n)))) = .inr (.inr (.inl (.ofNat n))) := by
  show Sum.inr (Sum.inr (Sum.inl (x_dn ρ (.ofNat n)))) = _
  rw [x_dn_nat h]
theorem x_dvN {n : Nat} (h : x_ln n = true) : x_dv ρ (.inl (.ofNat n)) = .inl (.ofNat n) := by
  show Sum.inl (x_dn ρ (.ofNat n)) = _
  rw [x_dn_nat h]
theorem x_lnlt {n : Nat} (h : n < 100000000000) : x_ln n = true := Nat.ble_eq.mpr (by omega)
theorem x_is_ln {n : Nat} (h : x_is n = true) : x_ln n = true := by
  unfold x_is at h
  rw [Bool.and_eq_true, Nat.ble_eq, Nat.blt_eq] at h
  exact x_lnlt (by omega)
theorem x_blt_ln {n : Nat} (h : Nat.blt n 2147483648 = true) : x_ln n = true := by
  rw [Nat.blt_eq] at h
  exact x_lnlt (by omega)
theorem x_dvS {v : e_V} (h1 : ∀ x, v ≠ .inr (.inl x)) (h2 : v ≠ .inr (.inr (.inr ()))) : (∀ x, x_dv ρ v ≠ .inr (.inl x)) ∧ x_dv ρ v ≠ .inr (.inr (.inr ())) := by
  rcases v with x | x | x | x
  · exact ⟨fun _ e => (by cases e), fun e => (by cases e)⟩
  · exact absurd rfl (h1 x)
  · exact ⟨fun _ e => (by cases e), fun e => (by cases e)⟩
  · exact absurd rfl h2
theorem x_dv_val {c : Nat} {x : Int} : x_dv ρ (e_val c x) = e_val c (x_dn ρ x) := by
  unfold e_val
  split
  · rfl
  · split <;> rfl
theorem x_tx_dn {c : Nat} {x : Int} (h : x_tx c x) : x_tx c (x_dn ρ x) := by
  rcases h with h | ⟨h, h1 | h1⟩ | h | ⟨h, n, h1, h2⟩
  · exact Or.inl h
  · subst h1; exact Or.inr (Or.inl ⟨h, Or.inl rfl⟩)
  · subst h1; exact Or.inr (Or.inl ⟨h, Or.inr rfl⟩)
  · exact Or.inr (Or.inr (Or.inl h))
  · subst h1; exact Or.inr (Or.inr (Or.inr ⟨h, n, x_dn_nat h2, h2⟩))
theorem x_map_get {α β : Type} {f : α → β} {d : α} : ∀ {l : List α} {n : Nat}, x_get (f d) (l.map f) n = f (x_get d l n)
  | [], n => by rw [List.map_nil, x_get_nil, x_get_nil]
  | x :: _, 0 => rfl
  | _ :: l, n + 1 => by rw [List.map_cons, x_get_s, x_get_s]; exact x_map_get (l := l)
theorem x_map_set {α β : Type} {f : α → β} {d v : α} : ∀ {n : Nat} {l : List α}, (x_set d v n l).map f = x_set (f d) (f v) n (l.map f)
  | 0, [] => rfl
  | 0, _ :: _ => rfl
  | n + 1, [] => by
    show f d :: (x_set d v n []).map f = f d :: x_set (f d) (f v) n []
    rw [x_map_set]; rfl
  | n + 1, x :: l => by
    show f x :: (x_set d v n l).map f = f x :: x_set (f d) (f v) n (l.map f)
    rw [x_map_set]
theorem x_get_dv {ls : List e_V} {b : Nat} : x_get (.inr (.inr (.inr ()))) (ls.map (x_dv ρ)) b = x_dv ρ (x_get (.inr (.inr (.inr ()))) ls b) := x_map_get (f := x_dv ρ) (d := .inr (.inr (.inr ())))
theorem x_get_dn {d : Int} {cs : List Int} {k : Nat} (h : x_li d = true) : x_get d (cs.map (x_dn ρ)) k = x_dn ρ (x_get d cs k) := by
  have := x_map_get (f := x_dn ρ) (d := d) (l := cs) (n := k)
  rw [x_dn_li h] at this
  exact this
theorem x_rd_dn {B : Nat → x_O} {M : x_M} {n : Nat} (hB : x_Bl ρ B) : x_rd B (x_dM ρ M) n = ((x_rd B M n).1, (x_rd B M n).2.1, (x_rd B M n).2.2.1, (x_rd B M n).2.2.2.map (x_dn ρ)) := by
  have e1 : x_at (x_dM ρ M) n = x_do ρ (x_at M n) := by
    unfold x_at x_dM
    rw [← List.map_nil (f := x_do ρ), ← List.map_nil (f := fun r => List.map (x_do ρ) r), x_map_get (f := fun l => List.map (fun r => List.map (x_do ρ) r) l) (d := []), x_map_get (f := fun r => List.map (x_do ρ) r) (d := [])]
    exact x_map_get (f := x_do ρ) (d := none)
  unfold x_rd
  rw [e1]
  cases h : x_at M n with
  | none =>
    show B n = ((B n).1, (B n).2.1, (B n).2.2.1, (B n).2.2.2.map (x_dn ρ))
    rw [hB n]
  | some o => obtain ⟨kd, len, d, cs⟩ := o; rfl
theorem x_put_do {M : x_M} {n : Nat} {kd len : Nat} {d : Int} {cs : List Int} : x_dM ρ (x_put M n (kd, len, d, cs)) = x_put (x_dM ρ M) n (kd, len, d, cs.map (x_dn ρ)) := by
  have e2 : x_get [] (x_dM ρ M) (n / 256) = (x_get [] M (n / 256)).map (fun r => r.map (x_do ρ)) := x_map_get (f := fun l => List.map (fun r => List.map (x_do ρ) r) l) (d := [])
  have e3 : x_get [] ((x_get [] M (n / 256)).map (fun r => r.map (x_do ρ))) (n / 16 % 16) = (x_get [] (x_get [] M (n / 256)) (n / 16 % 16)).map (x_do ρ) := x_map_get (f := fun r => List.map (x_do ρ) r) (d := [])
  unfold x_put
  rw [e2, e3]
  unfold x_dM
  rw [x_map_set, x_map_set, x_map_set]
  rfl
theorem x_put_dn {M : x_M} {n k : Nat} {kd len : Nat} {d v : Int} {cs : List Int} (h : x_li d = true) : x_dM ρ (x_put M n (kd, len, d, x_set d v k cs)) = x_put (x_dM ρ M) n (kd, len, d, x_set d (x_dn ρ v) k (cs.map (x_dn ρ))) := by
  rw [x_put_do, x_map_set, x_dn_li h]
theorem x_tms_li : ∀ l ∈ x_tms, ∀ x ∈ l, x_li x = true := by decide +kernel
theorem x_tms_dn {a : Nat} : (x_get [] x_tms a).map (x_dn ρ) = x_get [] x_tms a := by
  have h : ∀ x ∈ x_get [] x_tms a, x_li x = true := by
    rcases Nat.lt_or_ge a x_tms.length with h | h
    · intro x hx
      have e : x_get [] x_tms a = x_tms[a] := by
        by_cases e : x_get [] x_tms a = []
        · rw [e] at hx; cases hx
        · have := x_get_some (d := []) rfl e
          rw [List.getElem?_eq_getElem h] at this
          exact (Option.some.inj this).symm
      rw [e] at hx
      exact x_tms_li _ (List.getElem_mem h) x hx
    · intro x hx
      by_cases e : x_get [] x_tms a = []
      · rw [e] at hx; cases hx
      · have := x_get_some (d := []) rfl e
        rw [List.getElem?_eq_none h] at this
        cases this
  calc (x_get [] x_tms a).map (x_dn ρ) = (x_get [] x_tms a).map id := List.map_congr_left fun x hx => x_dn_li (h x hx)
    _ = _ := List.map_id _
theorem x_new_dn {M : x_M} {n a b : Nat} : x_dM ρ (x_put M n (a, b, 0, x_get [] x_tms a)) = x_put (x_dM ρ M) n (a, b, 0, x_get [] x_tms a) := by rw [x_put_do, x_tms_dn]
theorem x_new0_dn {M : x_M} {n a b : Nat} {z : Int} : x_dM ρ (x_put M n (a, b, z, [])) = x_put (x_dM ρ M) n (a, b, z, []) := by rw [x_put_do]; rfl
theorem x_dvT {top : Nat} (h : Nat.blt top 1000000 = true) : x_dv ρ (.inr (.inr (.inl (.ofNat top)))) = .inr (.inr (.inl (.ofNat top))) := x_dvA (x_lnlt (by rw [Nat.blt_eq] at h; omega))
theorem x_cut_dn {ls : List e_V} {i : Nat} : (e_cut ls i).map (x_dv ρ) = e_cut (ls.map (x_dv ρ)) i := by
  unfold e_cut
  cases i with
  | zero => rfl
  | succ j =>
    dsimp only
    rw [List.getElem?_map]
    cases h : ls[j]? with
    | none => rfl
    | some v =>
      rcases v with x | x | x | x
      · rfl
      · show (ls.set j _).map (x_dv ρ) = (ls.map (x_dv ρ)).set j _
        rw [List.map_set]; rfl
      · rfl
      · rfl
theorem x_e1_dn {ls : List e_V} {i : Nat} {v : e_V} : (e_s1 ls i v).map (x_dv ρ) = e_s1 (ls.map (x_dv ρ)) i (x_dv ρ v) := by
  unfold e_s1
  rw [List.map_set, x_cut_dn]
theorem x_e2_dn {ls : List e_V} {i : Nat} {v : e_V} : (e_s2 ls i v).map (x_dv ρ) = e_s2 (ls.map (x_dv ρ)) i (x_dv ρ v) := by
  unfold e_s2
  rw [List.map_set, List.map_set, x_cut_dn]
  rfl
theorem e_cat_dn : ∀ {r : List e_V}, e_cat (r.map (x_dv ρ)) = e_cat r
  | [] => rfl
  | v :: r => by
    have ih := e_cat_dn (r := r)
    unfold e_cat at *
    simp only [List.map_cons, List.sum_cons]
    rw [ih]
    rcases v with x | x | x | x <;> rfl
theorem x_an {p q : Bool} (h : (p && q) = true) : p = true ∧ q = true := by rw [Bool.and_eq_true] at h; exact h
theorem x_ani {p q : Bool} (h1 : p = true) (h2 : q = true) : (p && q) = true := by rw [h1, h2]; rfl
theorem x_an5 {a b c d e : Bool} (h : (a && (b && (c && (d && e)))) = true) : a = true ∧ b = true ∧ c = true ∧ d = true ∧ e = true :=
  ⟨(x_an h).1, (x_an (x_an h).2).1, (x_an (x_an (x_an h).2).2).1, (x_an (x_an (x_an (x_an h).2).2).2).1, (x_an (x_an (x_an (x_an h).2).2).2).2⟩
theorem x_an5i {a b c d e : Bool} (h1 : a = true) (h2 : b = true) (h3 : c = true) (h4 : d = true) (h5 : e = true) : (a && (b && (c && (d && e)))) = true := x_ani h1 (x_ani h2 (x_ani h3 (x_ani h4 h5)))
theorem x_an4 {a b c d : Bool} (h : (a && (b && (c && d))) = true) : d = true := (x_an (x_an (x_an h).2).2).2
theorem x_an5d {a b c d e : Bool} (h : (a && (b && (c && (d && e)))) = true) : e = true := (x_an5 h).2.2.2.2
theorem x_tl_dn {c : Nat} {x : Int} (h : x_tl c x = true) : x_tl c (x_dn ρ x) = true := by
  unfold x_tl at *
  split at h
  · rw [x_dn_li h]; exact h
  · rfl
theorem x_ck_dn {b : Nat} {y : Int} (h : x_ck b y = true) : x_ck b (x_dn ρ y) = true := by
  unfold x_ck at *
  split at h
  · rw [x_dn_li (x_an h).2]; exact h
  · rw [x_dn_li (x_an h).2]; exact h
  · rfl
theorem x_01_dn {x : Int} (h : x_01 x = true) : x_01 (x_dn ρ x) = true := by
  rcases x_01_ok h with rfl | rfl <;> rfl
theorem x_b29 {p r s : Bool} {kd : Nat} {x : Int} (h : (p && ((Nat.beq kd 22 || (Nat.beq kd 21 && x_01 x)) && (r && s))) = true) : (p && ((Nat.beq kd 22 || (Nat.beq kd 21 && x_01 (x_dn ρ x))) && (r && s))) = true := by
  obtain ⟨h1, h2⟩ := x_an h
  obtain ⟨h3, h4⟩ := x_an h2
  refine x_ani h1 (x_ani ?_ h4)
  rw [Bool.or_eq_true] at *
  rcases h3 with h3 | h3
  · exact Or.inl h3
  · exact Or.inr (x_ani (x_an h3).1 (x_01_dn (x_an h3).2))
theorem x_as_dn {x : Int} (h : x_as x = true) : x_dn ρ x = x := by
  refine x_dn_li ?_
  unfold x_as at h
  split at h
  · rw [Nat.blt_eq] at h; exact Nat.ble_eq.mpr (by omega)
  · cases h
theorem x_b37 {a b c d e f g i : Bool} {x : Int} (h : (a && (b && (c && (d && (e && (f && (g && (x_as x && i)))))))) = true) : g = true ∧ x_as x = true := by
  have h := (x_an (x_an (x_an (x_an (x_an (x_an h).2).2).2).2).2).2
  exact ⟨(x_an h).1, (x_an (x_an h).2).1⟩
end DEN
section WAYS
variable {ρ : Nat → Int} {r0 : x_Rs} {o o9 : List Int} {lg : List x_Lg}
theorem x_br_b {c : Bool} {A : x_A} {r : x_Rs × List Int × List x_Lg} (h : x_brR c A x_fR o = some r) : c = true ∧ A o = some r := by
  cases c
  · cases h
  · exact ⟨rfl, h⟩
theorem x_lg_b {e : x_Lg} {r : Option (x_Rs × List Int × List x_Lg)} (h : x_lg e r = some (r0, o9, lg)) : ∃ lg1, r = some (r0, o9, lg1) ∧ lg = e :: lg1 := by
  unfold x_lg at h
  split at h
  · cases h
  · cases h; exact ⟨_, rfl, rfl⟩
theorem x_ar_b {cls b : Nat} {x y : Int} {k : Int → x_A} (h : x_arR cls b x y k o = some (r0, o9, lg)) (hl : ∀ e ∈ lg, x_ho ρ e) (hc : cls ≠ 17) : ∃ w o1 lg1, k w o1 = some (r0, o9, lg1) ∧ (∀ e ∈ lg1, x_ho ρ e) ∧ x_vf cls b (x_dn ρ x) (x_dn ρ y) = x_dn ρ w := by
  unfold x_arR at h
  cases hq : (x_li x && x_li y) with
  | true =>
    rw [hq, cond_true, x_fi_eq] at h
    obtain ⟨h1, h2⟩ := x_an hq
    cases hw : x_li (x_vf cls b x y) with
    | true =>
      rw [hw, cond_true] at h
      exact ⟨_, _, _, h, hl, by rw [x_dn_li h1, x_dn_li h2, x_dn_li hw]⟩
    | false => rw [hw] at h; cases h
  | false =>
    rw [hq, cond_false] at h
    split at h
    · cases h
    · rename_i z o2
      cases hz : x_li z with
      | true => rw [hz] at h; cases h
      | false =>
        rw [hz, cond_false] at h
        obtain ⟨lg1, e1, rfl⟩ := x_lg_b h
        refine ⟨z, _, lg1, e1, fun e he => hl e (List.mem_cons_of_mem _ he), ?_⟩
        have := hl _ List.mem_cons_self
        unfold x_ho at this
        split at this
        · rename_i q; exact absurd q hc
        · exact this
theorem x_bs_b {b : Nat} {x y : Int} {A B : x_A} (h : x_bsR b x y A B o = some (r0, o9, lg)) (hl : ∀ e ∈ lg, x_ho ρ e) : (∃ o1 lg1, A o1 = some (r0, o9, lg1) ∧ (∀ e ∈ lg1, x_ho ρ e) ∧ x_cd b (x_dn ρ x) (x_dn ρ y) = true) ∨ (∃ o1 lg1, B o1 = some (r0, o9, lg1) ∧ (∀ e ∈ lg1, x_ho ρ e) ∧ x_cd b (x_dn ρ x) (x_dn ρ y) = false) := by
  unfold x_bsR at h
  cases hq : (x_li x && x_li y) with
  | true =>
    rw [hq, cond_true] at h
    obtain ⟨h1, h2⟩ := x_an hq
    rw [x_dn_li h1, x_dn_li h2]
    cases hc : x_cd b x y with
    | true => rw [hc, cond_true] at h; exact Or.inl ⟨_, _, h, hl, rfl⟩
    | false => rw [hc, cond_false] at h; exact Or.inr ⟨_, _, h, hl, rfl⟩
  | false =>
    rw [hq, cond_false] at h
    split at h
    · obtain ⟨lg1, e1, rfl⟩ := x_lg_b h
      exact Or.inr ⟨_, lg1, e1, fun e he => hl e (List.mem_cons_of_mem _ he), hl _ List.mem_cons_self⟩
    · obtain ⟨lg1, e1, rfl⟩ := x_lg_b h
      exact Or.inl ⟨_, lg1, e1, fun e he => hl e (List.mem_cons_of_mem _ he), hl _ List.mem_cons_self⟩
    · cases h
theorem x_ar_a {cls b : Nat} {x y : Int} {k : Int → x_A} (h : x_arR cls b x y k o = some (r0, o9, lg)) : ∃ w o1 lg1, k w o1 = some (r0, o9, lg1) := by
  unfold x_arR at h
  cases hq : (x_li x && x_li y) with
  | true =>
    rw [hq, cond_true, x_fi_eq] at h
    cases hw : x_li (x_vf cls b x y) with
    | true => rw [hw, cond_true] at h; exact ⟨_, _, _, h⟩
    | false => rw [hw] at h; cases h
  | false =>
    rw [hq, cond_false] at h
    split at h
    · cases h
    · rename_i z o2
      cases hz : x_li z with
      | true => rw [hz] at h; cases h
      | false =>
        rw [hz, cond_false] at h
        obtain ⟨lg1, e1, rfl⟩ := x_lg_b h
        exact ⟨z, _, lg1, e1⟩
theorem x_bs_a {b : Nat} {x y : Int} {A B : x_A} (h : x_bsR b x y A B o = some (r0, o9, lg)) : (∃ o1 lg1, A o1 = some (r0, o9, lg1)) ∨ (∃ o1 lg1, B o1 = some (r0, o9, lg1)) := by
  unfold x_bsR at h
  cases hq : (x_li x && x_li y) with
  | true =>
    rw [hq, cond_true] at h
    cases hc : x_cd b x y with
    | true => rw [hc, cond_true] at h; exact Or.inl ⟨_, _, h⟩
    | false => rw [hc, cond_false] at h; exact Or.inr ⟨_, _, h⟩
  | false =>
    rw [hq, cond_false] at h
    split at h
    · obtain ⟨lg1, e1, rfl⟩ := x_lg_b h; exact Or.inr ⟨_, lg1, e1⟩
    · obtain ⟨lg1, e1, rfl⟩ := x_lg_b h; exact Or.inl ⟨_, lg1, e1⟩
    · cases h
theorem x_sw_a {P1 : Nat → Nat → x_A} {dp dj : Nat} {x : Int} : ∀ {l : List (Int × Nat × Nat)} {o : List Int} {lg : List x_Lg}, x_sw x_fR x_bsR P1 dp dj x l o = some (r0, o9, lg) → ∃ p j o1 lg1, P1 p j o1 = some (r0, o9, lg1)
  | [], o, lg, h => ⟨_, _, _, _, h⟩
  | (k, p, j) :: r, o, lg, h => by
    unfold x_sw at h
    cases hk : x_li k with
    | false => rw [hk] at h; cases h
    | true =>
      rw [hk, cond_true] at h
      rcases x_bs_a h with ⟨o1, lg1, h⟩ | ⟨o1, lg1, h⟩
      · exact ⟨_, _, _, _, h⟩
      · exact x_sw_a h
theorem x_sw_m {P1 : Nat → Nat → x_A} {P2 : Nat → Nat → Prop} {dp dj : Nat} {x : Int} (hP : ∀ p j o1 lg1, P1 p j o1 = some (r0, o9, lg1) → (∀ e ∈ lg1, x_ho ρ e) → P2 p j) : ∀ {l : List (Int × Nat × Nat)} {o : List Int} {lg : List x_Lg}, x_sw x_fR x_bsR P1 dp dj x l o = some (r0, o9, lg) → (∀ e ∈ lg, x_ho ρ e) → x_sw False x_bsP P2 dp dj (x_dn ρ x) l
  | [], o, lg, h, hl => hP _ _ _ _ h hl
  | (k, p, j) :: r, o, lg, h, hl => by
    unfold x_sw at h ⊢
    cases hk : x_li k with
    | false => rw [hk] at h; cases h
    | true =>
      rw [hk, cond_true] at h
      rw [cond_true]
      rcases x_bs_b h hl with ⟨o1, lg1, h, hl, hc⟩ | ⟨o1, lg1, h, hl, hc⟩
      · rw [x_dn_li hk] at hc; exact x_brP_1 hc (hP _ _ _ _ h hl)
      · rw [x_dn_li hk] at hc; exact x_brP_2 hc (x_sw_m hP h hl)
end WAYS
section SIM
variable {ρ : Nat → Int} {K1 : Nat → Nat → List e_V → List e_V → x_M → Nat → x_A} {K2 : Nat → Nat → List e_V → List e_V → x_M → Nat → Prop} {r0 : x_Rs} {o o9 : List Int} {lg : List x_Lg} {B : Nat → x_O} {S0 : Nat → Nat × Nat} {pc a b c : Nat} {z : Int} {t : List (Int × Nat × Nat)} {ls st : List e_V} {M : x_M} {top : Nat}
theorem x_a0 (h : x_s0 x_fR x_brR x_bsR x_arR K1 B S0 pc a b c z t ls st M top o = some (r0, o9, lg)) : ∃ j p l s m t2 o1 lg1, top ≤ t2 ∧ K1 j p l s m t2 o1 = some (r0, o9, lg1) := by
  unfold x_s0 at h
  obtain ⟨hc, h⟩ := x_br_b h
  exact ⟨_, _, _, _, _, _, _, _, Nat.le_refl _, h⟩
theorem x_a1 (h : x_s1 x_fR x_brR x_bsR x_arR K1 B S0 pc a b c z t ls st M top o = some (r0, o9, lg)) : ∃ j p l s m t2 o1 lg1, top ≤ t2 ∧ K1 j p l s m t2 o1 = some (r0, o9, lg1) := by
  unfold x_s1 at h
  obtain ⟨hc, h⟩ := x_br_b h
  exact ⟨_, _, _, _, _, _, _, _, Nat.le_refl _, h⟩
theorem x_a2 (h : x_s2 x_fR x_brR x_bsR x_arR K1 B S0 pc a b c z t ls st M top o = some (r0, o9, lg)) : ∃ j p l s m t2 o1 lg1, top ≤ t2 ∧ K1 j p l s m t2 o1 = some (r0, o9, lg1) := by
  unfold x_s2 at h
  obtain ⟨x, r, e⟩ := x_eI_b (fun e => by rw [e] at h; cases h)
  rw [e, x_eI_e] at h
  clear e
  exact ⟨_, _, _, _, _, _, _, _, Nat.le_refl _, h⟩
theorem x_a3 (h : x_s3 x_fR x_brR x_bsR x_arR K1 B S0 pc a b c z t ls st M top o = some (r0, o9, lg)) : ∃ j p l s m t2 o1 lg1, top ≤ t2 ∧ K1 j p l s m t2 o1 = some (r0, o9, lg1) := by
  unfold x_s3 at h
  obtain ⟨x, r, e⟩ := x_eL_b (fun e => by rw [e] at h; cases h)
  rw [e, x_eL_e] at h
  clear e
  exact ⟨_, _, _, _, _, _, _, _, Nat.le_refl _, h⟩
theorem x_a4 (h : x_s4 x_fR x_brR x_bsR x_arR K1 B S0 pc a b c z t ls st M top o = some (r0, o9, lg)) : ∃ j p l s m t2 o1 lg1, top ≤ t2 ∧ K1 j p l s m t2 o1 = some (r0, o9, lg1) := by
  unfold x_s4 at h
  obtain ⟨x, r, e, qx⟩ := x_eA_b (fun e => by rw [e] at h; cases h)
  rw [e, x_eA_e qx] at h
  clear e
  exact ⟨_, _, _, _, _, _, _, _, Nat.le_refl _, h⟩
theorem x_a5 (h : x_s5 x_fR x_brR x_bsR x_arR K1 B S0 pc a b c z t ls st M top o = some (r0, o9, lg)) : ∃ j p l s m t2 o1 lg1, top ≤ t2 ∧ K1 j p l s m t2 o1 = some (r0, o9, lg1) := by
  unfold x_s5 at h
  obtain ⟨x, r, e⟩ := x_eI_b (fun e => by rw [e] at h; cases h)
  rw [e, x_eI_e] at h
  clear e
  rw [x_l1_e] at h
  exact ⟨_, _, _, _, _, _, _, _, Nat.le_refl _, h⟩
theorem x_a6 (h : x_s6 x_fR x_brR x_bsR x_arR K1 B S0 pc a b c z t ls st M top o = some (r0, o9, lg)) : ∃ j p l s m t2 o1 lg1, top ≤ t2 ∧ K1 j p l s m t2 o1 = some (r0, o9, lg1) := by
  unfold x_s6 at h
  obtain ⟨x, r, e⟩ := x_eL_b (fun e => by rw [e] at h; cases h)
  rw [e, x_eL_e] at h
  clear e
  rw [x_l2_e] at h
  exact ⟨_, _, _, _, _, _, _, _, Nat.le_refl _, h⟩
theorem x_a7 (h : x_s7 x_fR x_brR x_bsR x_arR K1 B S0 pc a b c z t ls st M top o = some (r0, o9, lg)) : ∃ j p l s m t2 o1 lg1, top ≤ t2 ∧ K1 j p l s m t2 o1 = some (r0, o9, lg1) := by
  unfold x_s7 at h
  obtain ⟨x, r, e, qx⟩ := x_eA_b (fun e => by rw [e] at h; cases h)
  rw [e, x_eA_e qx] at h
  clear e
  rw [x_l1_e] at h
  exact ⟨_, _, _, _, _, _, _, _, Nat.le_refl _, h⟩
theorem x_a8 (h : x_s8 x_fR x_brR x_bsR x_arR K1 B S0 pc a b c z t ls st M top o = some (r0, o9, lg)) : ∃ j p l s m t2 o1 lg1, top ≤ t2 ∧ K1 j p l s m t2 o1 = some (r0, o9, lg1) := by
  unfold x_s8 at h
  obtain ⟨x, r, e⟩ := x_eI_b (fun e => by rw [e] at h; cases h)
  rw [e, x_eI_e] at h
  clear e
  obtain ⟨hc, h⟩ := x_br_b h
  obtain ⟨w, o1, lg1, h⟩ := x_ar_a h
  rw [x_l1_e] at h
  exact ⟨_, _, _, _, _, _, _, _, Nat.le_refl _, h⟩
theorem x_a9 (h : x_s9 x_fR x_brR x_bsR x_arR K1 B S0 pc a b c z t ls st M top o = some (r0, o9, lg)) : ∃ j p l s m t2 o1 lg1, top ≤ t2 ∧ K1 j p l s m t2 o1 = some (r0, o9, lg1) := by
  unfold x_s9 at h
  obtain ⟨y, r, e⟩ := x_eI_b (fun e => by rw [e] at h; cases h)
  rw [e, x_eI_e] at h
  clear e
  obtain ⟨x, r2, e⟩ := x_eI_b (fun e => by rw [e] at h; cases h)
  rw [e, x_eI_e] at h
  clear e
  obtain ⟨hc, h⟩ := x_br_b h
  obtain ⟨w, o1, lg1, h⟩ := x_ar_a h
  exact ⟨_, _, _, _, _, _, _, _, Nat.le_refl _, h⟩
theorem x_a10 (h : x_s10 x_fR x_brR x_bsR x_arR K1 B S0 pc a b c z t ls st M top o = some (r0, o9, lg)) : ∃ j p l s m t2 o1 lg1, top ≤ t2 ∧ K1 j p l s m t2 o1 = some (r0, o9, lg1) := by
  unfold x_s10 at h
  obtain ⟨y, r, e⟩ := x_eL_b (fun e => by rw [e] at h; cases h)
  rw [e, x_eL_e] at h
  clear e
  obtain ⟨x, r2, e⟩ := x_eL_b (fun e => by rw [e] at h; cases h)
  rw [e, x_eL_e] at h
  clear e
  obtain ⟨hc, h⟩ := x_br_b h
  obtain ⟨w, o1, lg1, h⟩ := x_ar_a h
  exact ⟨_, _, _, _, _, _, _, _, Nat.le_refl _, h⟩
theorem x_a11 (h : x_s11 x_fR x_brR x_bsR x_arR K1 B S0 pc a b c z t ls st M top o = some (r0, o9, lg)) : ∃ j p l s m t2 o1 lg1, top ≤ t2 ∧ K1 j p l s m t2 o1 = some (r0, o9, lg1) := by
  unfold x_s11 at h
  obtain ⟨y, r, e⟩ := x_eI_b (fun e => by rw [e] at h; cases h)
  rw [e, x_eI_e] at h
  clear e
  obtain ⟨x, r2, e⟩ := x_eL_b (fun e => by rw [e] at h; cases h)
  rw [e, x_eL_e] at h
  clear e
  obtain ⟨w, o1, lg1, h⟩ := x_ar_a h
  exact ⟨_, _, _, _, _, _, _, _, Nat.le_refl _, h⟩
theorem x_a12 (h : x_s12 x_fR x_brR x_bsR x_arR K1 B S0 pc a b c z t ls st M top o = some (r0, o9, lg)) : ∃ j p l s m t2 o1 lg1, top ≤ t2 ∧ K1 j p l s m t2 o1 = some (r0, o9, lg1) := by
  unfold x_s12 at h
  obtain ⟨x, r, e⟩ := x_eI_b (fun e => by rw [e] at h; cases h)
  rw [e, x_eI_e] at h
  clear e
  obtain ⟨w, o1, lg1, h⟩ := x_ar_a h
  exact ⟨_, _, _, _, _, _, _, _, Nat.le_refl _, h⟩
theorem x_a13 (h : x_s13 x_fR x_brR x_bsR x_arR K1 B S0 pc a b c z t ls st M top o = some (r0, o9, lg)) : ∃ j p l s m t2 o1 lg1, top ≤ t2 ∧ K1 j p l s m t2 o1 = some (r0, o9, lg1) := by
  unfold x_s13 at h
  obtain ⟨x, r, e⟩ := x_eL_b (fun e => by rw [e] at h; cases h)
  rw [e, x_eL_e] at h
  clear e
  obtain ⟨w, o1, lg1, h⟩ := x_ar_a h
  exact ⟨_, _, _, _, _, _, _, _, Nat.le_refl _, h⟩
theorem x_a14 (h : x_s14 x_fR x_brR x_bsR x_arR K1 B S0 pc a b c z t ls st M top o = some (r0, o9, lg)) : ∃ j p l s m t2 o1 lg1, top ≤ t2 ∧ K1 j p l s m t2 o1 = some (r0, o9, lg1) := by
  unfold x_s14 at h
  obtain ⟨x, r, e⟩ := x_eI_b (fun e => by rw [e] at h; cases h)
  rw [e, x_eI_e] at h
  clear e
  exact ⟨_, _, _, _, _, _, _, _, Nat.le_refl _, h⟩
theorem x_a15 (h : x_s15 x_fR x_brR x_bsR x_arR K1 B S0 pc a b c z t ls st M top o = some (r0, o9, lg)) : ∃ j p l s m t2 o1 lg1, top ≤ t2 ∧ K1 j p l s m t2 o1 = some (r0, o9, lg1) := by
  unfold x_s15 at h
  obtain ⟨x, r, e⟩ := x_eL_b (fun e => by rw [e] at h; cases h)
  rw [e, x_eL_e] at h
  clear e
  obtain ⟨w, o1, lg1, h⟩ := x_ar_a h
  exact ⟨_, _, _, _, _, _, _, _, Nat.le_refl _, h⟩
theorem x_a16 (h : x_s16 x_fR x_brR x_bsR x_arR K1 B S0 pc a b c z t ls st M top o = some (r0, o9, lg)) : ∃ j p l s m t2 o1 lg1, top ≤ t2 ∧ K1 j p l s m t2 o1 = some (r0, o9, lg1) := by
  unfold x_s16 at h
  obtain ⟨y, r, e⟩ := x_eL_b (fun e => by rw [e] at h; cases h)
  rw [e, x_eL_e] at h
  clear e
  obtain ⟨x, r2, e⟩ := x_eL_b (fun e => by rw [e] at h; cases h)
  rw [e, x_eL_e] at h
  clear e
  obtain ⟨w, o1, lg1, h⟩ := x_ar_a h
  exact ⟨_, _, _, _, _, _, _, _, Nat.le_refl _, h⟩
theorem x_a17 (h : x_s17 x_fR x_brR x_bsR x_arR K1 B S0 pc a b c z t ls st M top o = some (r0, o9, lg)) : ∃ j p l s m t2 o1 lg1, top ≤ t2 ∧ K1 j p l s m t2 o1 = some (r0, o9, lg1) := by
  unfold x_s17 at h
  obtain ⟨x, r, e⟩ := x_eI_b (fun e => by rw [e] at h; cases h)
  rw [e, x_eI_e] at h
  clear e
  rcases x_bs_a h with ⟨o1, lg1, h⟩ | ⟨o1, lg1, h⟩
  · exact ⟨_, _, _, _, _, _, _, _, Nat.le_refl _, h⟩
  exact ⟨_, _, _, _, _, _, _, _, Nat.le_refl _, h⟩
theorem x_a18 (h : x_s18 x_fR x_brR x_bsR x_arR K1 B S0 pc a b c z t ls st M top o = some (r0, o9, lg)) : ∃ j p l s m t2 o1 lg1, top ≤ t2 ∧ K1 j p l s m t2 o1 = some (r0, o9, lg1) := by
  unfold x_s18 at h
  obtain ⟨y, r, e⟩ := x_eI_b (fun e => by rw [e] at h; cases h)
  rw [e, x_eI_e] at h
  clear e
  obtain ⟨x, r2, e⟩ := x_eI_b (fun e => by rw [e] at h; cases h)
  rw [e, x_eI_e] at h
  clear e
  rcases x_bs_a h with ⟨o1, lg1, h⟩ | ⟨o1, lg1, h⟩
  · exact ⟨_, _, _, _, _, _, _, _, Nat.le_refl _, h⟩
  exact ⟨_, _, _, _, _, _, _, _, Nat.le_refl _, h⟩
theorem x_a19 (h : x_s19 x_fR x_brR x_bsR x_arR K1 B S0 pc a b c z t ls st M top o = some (r0, o9, lg)) : ∃ j p l s m t2 o1 lg1, top ≤ t2 ∧ K1 j p l s m t2 o1 = some (r0, o9, lg1) := by
  unfold x_s19 at h
  exact ⟨_, _, _, _, _, _, _, _, Nat.le_refl _, h⟩
theorem x_a20 (h : x_s20 x_fR x_brR x_bsR x_arR K1 B S0 pc a b c z t ls st M top o = some (r0, o9, lg)) : ∃ j p l s m t2 o1 lg1, top ≤ t2 ∧ K1 j p l s m t2 o1 = some (r0, o9, lg1) := by
  unfold x_s20 at h
  obtain ⟨v, r, e, wv, uv⟩ := x_eS_b (fun e => by rw [e] at h; cases h)
  rw [e, x_eS_e wv uv] at h
  clear e
  exact ⟨_, _, _, _, _, _, _, _, Nat.le_refl _, h⟩
theorem x_a21 (h : x_s21 x_fR x_brR x_bsR x_arR K1 B S0 pc a b c z t ls st M top o = some (r0, o9, lg)) : ∃ j p l s m t2 o1 lg1, top ≤ t2 ∧ K1 j p l s m t2 o1 = some (r0, o9, lg1) := by
  unfold x_s21 at h
  obtain ⟨v, r, e, wv, uv⟩ := x_eS_b (fun e => by rw [e] at h; cases h)
  rw [e, x_eS_e wv uv] at h
  clear e
  exact ⟨_, _, _, _, _, _, _, _, Nat.le_refl _, h⟩
theorem x_a22 (h : x_s22 x_fR x_brR x_bsR x_arR K1 B S0 pc a b c z t ls st M top o = some (r0, o9, lg)) : ∃ j p l s m t2 o1 lg1, top ≤ t2 ∧ K1 j p l s m t2 o1 = some (r0, o9, lg1) := by
  unfold x_s22 at h
  obtain ⟨x, r, e⟩ := x_eL_b (fun e => by rw [e] at h; cases h)
  rw [e, x_eL_e] at h
  clear e
  exact ⟨_, _, _, _, _, _, _, _, Nat.le_refl _, h⟩
theorem x_a23 (h : x_s23 x_fR x_brR x_bsR x_arR K1 B S0 pc a b c z t ls st M top o = some (r0, o9, lg)) : ∃ j p l s m t2 o1 lg1, top ≤ t2 ∧ K1 j p l s m t2 o1 = some (r0, o9, lg1) := by
  unfold x_s23 at h
  obtain ⟨v, r, e, wv, uv⟩ := x_eS_b (fun e => by rw [e] at h; cases h)
  rw [e, x_eS_e wv uv] at h
  clear e
  obtain ⟨u, r2, e, wu, uu⟩ := x_eS_b (fun e => by rw [e] at h; cases h)
  rw [e, x_eS_e wu uu] at h
  clear e
  exact ⟨_, _, _, _, _, _, _, _, Nat.le_refl _, h⟩
theorem x_a24 (h : x_s24 x_fR x_brR x_bsR x_arR K1 B S0 pc a b c z t ls st M top o = some (r0, o9, lg)) : ∃ j p l s m t2 o1 lg1, top ≤ t2 ∧ K1 j p l s m t2 o1 = some (r0, o9, lg1) := by
  unfold x_s24 at h
  obtain ⟨x, r, e⟩ := x_eI_b (fun e => by rw [e] at h; cases h)
  rw [e, x_eI_e] at h
  clear e
  obtain ⟨p, j, o1, lg1, h⟩ := x_sw_a h
  exact ⟨_, _, _, _, _, _, _, _, Nat.le_refl _, h⟩
theorem x_a25 (h : x_s25 x_fR x_brR x_bsR x_arR K1 B S0 pc a b c z t ls st M top o = some (r0, o9, lg)) : ∃ j p l s m t2 o1 lg1, top ≤ t2 ∧ K1 j p l s m t2 o1 = some (r0, o9, lg1) := by
  unfold x_s25 at h
  obtain ⟨n, r, e, qn⟩ := x_eA_b (fun e => by rw [e] at h; cases h)
  rw [e, x_eA_e qn] at h
  clear e
  rw [x_eO_e] at h
  obtain ⟨hc, h⟩ := x_br_b h
  rw [x_fi_eq] at h
  exact ⟨_, _, _, _, _, _, _, _, Nat.le_refl _, h⟩
theorem x_a26 (h : x_s26 x_fR x_brR x_bsR x_arR K1 B S0 pc a b c z t ls st M top o = some (r0, o9, lg)) : ∃ j p l s m t2 o1 lg1, top ≤ t2 ∧ K1 j p l s m t2 o1 = some (r0, o9, lg1) := by
  unfold x_s26 at h
  obtain ⟨x, r, e, hx⟩ := x_eT_b (fun e => by rw [e] at h; cases h)
  rw [e, x_eT_e hx] at h
  clear e
  obtain ⟨n, r2, e, qn⟩ := x_eA_b (fun e => by rw [e] at h; cases h)
  rw [e, x_eA_e qn] at h
  clear e
  rw [x_eO_e] at h
  obtain ⟨hc, h⟩ := x_br_b h
  rw [x_sek_eq] at h
  rw [x_puk_eq] at h
  exact ⟨_, _, _, _, _, _, _, _, Nat.le_refl _, h⟩
theorem x_a27 (h : x_s27 x_fR x_brR x_bsR x_arR K1 B S0 pc a b c z t ls st M top o = some (r0, o9, lg)) : ∃ j p l s m t2 o1 lg1, top ≤ t2 ∧ K1 j p l s m t2 o1 = some (r0, o9, lg1) := by
  unfold x_s27 at h
  obtain ⟨i, r, e, qi⟩ := x_eN_b (fun e => by rw [e] at h; cases h)
  rw [e, x_eN_e qi] at h
  clear e
  obtain ⟨n, r2, e, qn⟩ := x_eA_b (fun e => by rw [e] at h; cases h)
  rw [e, x_eA_e qn] at h
  clear e
  rw [x_eO_e] at h
  obtain ⟨hc, h⟩ := x_br_b h
  rw [x_fi_eq] at h
  exact ⟨_, _, _, _, _, _, _, _, Nat.le_refl _, h⟩
theorem x_a28 (h : x_s28 x_fR x_brR x_bsR x_arR K1 B S0 pc a b c z t ls st M top o = some (r0, o9, lg)) : ∃ j p l s m t2 o1 lg1, top ≤ t2 ∧ K1 j p l s m t2 o1 = some (r0, o9, lg1) := by
  unfold x_s28 at h
  obtain ⟨x, r, e, hx⟩ := x_eT_b (fun e => by rw [e] at h; cases h)
  rw [e, x_eT_e hx] at h
  clear e
  obtain ⟨i, r2, e, qi⟩ := x_eN_b (fun e => by rw [e] at h; cases h)
  rw [e, x_eN_e qi] at h
  clear e
  obtain ⟨n, r3, e, qn⟩ := x_eA_b (fun e => by rw [e] at h; cases h)
  rw [e, x_eA_e qn] at h
  clear e
  rw [x_eO_e] at h
  obtain ⟨hc, h⟩ := x_br_b h
  rw [x_sek_eq] at h
  rw [x_puk_eq] at h
  exact ⟨_, _, _, _, _, _, _, _, Nat.le_refl _, h⟩
theorem x_a29 (h : x_s29 x_fR x_brR x_bsR x_arR K1 B S0 pc a b c z t ls st M top o = some (r0, o9, lg)) : ∃ j p l s m t2 o1 lg1, top ≤ t2 ∧ K1 j p l s m t2 o1 = some (r0, o9, lg1) := by
  unfold x_s29 at h
  obtain ⟨x, r, e⟩ := x_eI_b (fun e => by rw [e] at h; cases h)
  rw [e, x_eI_e] at h
  clear e
  obtain ⟨i, r2, e, qi⟩ := x_eN_b (fun e => by rw [e] at h; cases h)
  rw [e, x_eN_e qi] at h
  clear e
  obtain ⟨n, r3, e, qn⟩ := x_eA_b (fun e => by rw [e] at h; cases h)
  rw [e, x_eA_e qn] at h
  clear e
  rw [x_eO_e] at h
  obtain ⟨hc, h⟩ := x_br_b h
  obtain ⟨w, o1, lg1, h⟩ := x_ar_a h
  rw [x_sek_eq] at h
  rw [x_puk_eq] at h
  exact ⟨_, _, _, _, _, _, _, _, Nat.le_refl _, h⟩
theorem x_a30 (h : x_s30 x_fR x_brR x_bsR x_arR K1 B S0 pc a b c z t ls st M top o = some (r0, o9, lg)) : ∃ j p l s m t2 o1 lg1, top ≤ t2 ∧ K1 j p l s m t2 o1 = some (r0, o9, lg1) := by
  unfold x_s30 at h
  obtain ⟨x, r, e, qx⟩ := x_eA_b (fun e => by rw [e] at h; cases h)
  rw [e, x_eA_e qx] at h
  clear e
  obtain ⟨i, r2, e, qi⟩ := x_eN_b (fun e => by rw [e] at h; cases h)
  rw [e, x_eN_e qi] at h
  clear e
  obtain ⟨n, r3, e, qn⟩ := x_eA_b (fun e => by rw [e] at h; cases h)
  rw [e, x_eA_e qn] at h
  clear e
  rw [x_eO_e] at h
  rw [x_eO_e] at h
  obtain ⟨hc, h⟩ := x_br_b h
  rw [x_sek_eq] at h
  rw [x_puk_eq] at h
  exact ⟨_, _, _, _, _, _, _, _, Nat.le_refl _, h⟩
theorem x_a31 (h : x_s31 x_fR x_brR x_bsR x_arR K1 B S0 pc a b c z t ls st M top o = some (r0, o9, lg)) : ∃ j p l s m t2 o1 lg1, top ≤ t2 ∧ K1 j p l s m t2 o1 = some (r0, o9, lg1) := by
  unfold x_s31 at h
  obtain ⟨n, r, e, qn⟩ := x_eA_b (fun e => by rw [e] at h; cases h)
  rw [e, x_eA_e qn] at h
  clear e
  rw [x_eO_e] at h
  obtain ⟨hc, h⟩ := x_br_b h
  exact ⟨_, _, _, _, _, _, _, _, Nat.le_refl _, h⟩
theorem x_a32 (h : x_s32 x_fR x_brR x_bsR x_arR K1 B S0 pc a b c z t ls st M top o = some (r0, o9, lg)) : ∃ j p l s m t2 o1 lg1, top ≤ t2 ∧ K1 j p l s m t2 o1 = some (r0, o9, lg1) := by
  unfold x_s32 at h
  obtain ⟨hc, h⟩ := x_br_b h
  rw [x_puk_eq] at h
  rw [x_fn_eq] at h
  exact ⟨_, _, _, _, _, _, _, _, Nat.le_succ _, h⟩
theorem x_a33 (h : x_s33 x_fR x_brR x_bsR x_arR K1 B S0 pc a b c z t ls st M top o = some (r0, o9, lg)) : ∃ j p l s m t2 o1 lg1, top ≤ t2 ∧ K1 j p l s m t2 o1 = some (r0, o9, lg1) := by
  unfold x_s33 at h
  obtain ⟨n, r, e, qn⟩ := x_eN_b (fun e => by rw [e] at h; cases h)
  rw [e, x_eN_e qn] at h
  clear e
  obtain ⟨hc, h⟩ := x_br_b h
  rw [x_puk_eq] at h
  rw [x_fn_eq] at h
  exact ⟨_, _, _, _, _, _, _, _, Nat.le_succ _, h⟩
theorem x_a34 (h : x_s34 x_fR x_brR x_bsR x_arR K1 B S0 pc a b c z t ls st M top o = some (r0, o9, lg)) : ∃ j p l s m t2 o1 lg1, top ≤ t2 ∧ K1 j p l s m t2 o1 = some (r0, o9, lg1) := by
  unfold x_s34 at h
  obtain ⟨n, r, e, qn⟩ := x_eA_b (fun e => by rw [e] at h; cases h)
  rw [e, x_eA_e qn] at h
  clear e
  obtain ⟨hc, h⟩ := x_br_b h
  exact ⟨_, _, _, _, _, _, _, _, Nat.le_refl _, h⟩
theorem x_a35 (h : x_s35 x_fR x_brR x_bsR x_arR K1 B S0 pc a b c z t ls st M top o = some (r0, o9, lg)) : ∃ j p l s m t2 o1 lg1, top ≤ t2 ∧ K1 j p l s m t2 o1 = some (r0, o9, lg1) := by
  unfold x_s35 at h
  obtain ⟨hc, h⟩ := x_br_b h
  exact ⟨_, _, _, _, _, _, _, _, Nat.le_refl _, h⟩
theorem x_a36 (h : x_s36 x_fR x_brR x_bsR x_arR K1 B S0 pc a b c z t ls st M top o = some (r0, o9, lg)) : ∃ j p l s m t2 o1 lg1, top ≤ t2 ∧ K1 j p l s m t2 o1 = some (r0, o9, lg1) := by
  unfold x_s36 at h
  obtain ⟨n, r, e, qn⟩ := x_eA_b (fun e => by rw [e] at h; cases h)
  rw [e, x_eA_e qn] at h
  clear e
  rw [x_eO_e] at h
  rw [x_eO_e] at h
  obtain ⟨hc, h⟩ := x_br_b h
  exact ⟨_, _, _, _, _, _, _, _, Nat.le_refl _, h⟩
theorem x_a37 (h : x_s37 x_fR x_brR x_bsR x_arR K1 B S0 pc a b c z t ls st M top o = some (r0, o9, lg)) : ∃ j p l s m t2 o1 lg1, top ≤ t2 ∧ K1 j p l s m t2 o1 = some (r0, o9, lg1) := by
  unfold x_s37 at h
  obtain ⟨i, r, e, qi⟩ := x_eN_b (fun e => by rw [e] at h; cases h)
  rw [e, x_eN_e qi] at h
  clear e
  obtain ⟨n, r2, e, qn⟩ := x_eA_b (fun e => by rw [e] at h; cases h)
  rw [e, x_eA_e qn] at h
  clear e
  rw [x_eO_e] at h
  rw [x_eO_e] at h
  obtain ⟨hc, h⟩ := x_br_b h
  rw [x_fi_eq] at h
  exact ⟨_, _, _, _, _, _, _, _, Nat.le_refl _, h⟩
theorem x_a38 (h : x_s38 x_fR x_brR x_bsR x_arR K1 B S0 pc a b c z t ls st M top o = some (r0, o9, lg)) : ∃ j p l s m t2 o1 lg1, top ≤ t2 ∧ K1 j p l s m t2 o1 = some (r0, o9, lg1) := by
  unfold x_s38 at h
  rw [x_eO_e] at h
  obtain ⟨hc, h⟩ := x_br_b h
  exact ⟨_, _, _, _, _, _, _, _, Nat.le_refl _, h⟩
theorem x_a39 (h : x_s39 x_fR x_brR x_bsR x_arR K1 B S0 pc a b c z t ls st M top o = some (r0, o9, lg)) : ∃ j p l s m t2 o1 lg1, top ≤ t2 ∧ K1 j p l s m t2 o1 = some (r0, o9, lg1) := by
  unfold x_s39 at h
  obtain ⟨y, r, e, hy⟩ := x_eT_b (fun e => by rw [e] at h; cases h)
  rw [e, x_eT_e hy] at h
  clear e
  obtain ⟨x, r2, e, hx⟩ := x_eT_b (fun e => by rw [e] at h; cases h)
  rw [e, x_eT_e hx] at h
  clear e
  obtain ⟨hc, h⟩ := x_br_b h
  obtain ⟨w, o1, lg1, h⟩ := x_ar_a h
  exact ⟨_, _, _, _, _, _, _, _, Nat.le_refl _, h⟩
theorem x_reach : ∀ (op : Nat), x_st op x_fR x_brR x_bsR x_arR K1 B S0 pc a b c z t ls st M top o = some (r0, o9, lg) → ∃ j p l s m t2 o1 lg1, top ≤ t2 ∧ K1 j p l s m t2 o1 = some (r0, o9, lg1)
  | 0, h => x_a0 (B := B) (S0 := S0) (pc := pc) (a := a) (b := b) (c := c) (z := z) (t := t) (ls := ls) (st := st) (M := M) (top := top) h
  | 1, h => x_a1 (B := B) (S0 := S0) (pc := pc) (a := a) (b := b) (c := c) (z := z) (t := t) (ls := ls) (st := st) (M := M) (top := top) h
  | 2, h => x_a2 (B := B) (S0 := S0) (pc := pc) (a := a) (b := b) (c := c) (z := z) (t := t) (ls := ls) (st := st) (M := M) (top := top) h
  | 3, h => x_a3 (B := B) (S0 := S0) (pc := pc) (a := a) (b := b) (c := c) (z := z) (t := t) (ls := ls) (st := st) (M := M) (top := top) h
  | 4, h => x_a4 (B := B) (S0 := S0) (pc := pc) (a := a) (b := b) (c := c) (z := z) (t := t) (ls := ls) (st := st) (M := M) (top := top) h
  | 5, h => x_a5 (B := B) (S0 := S0) (pc := pc) (a := a) (b := b) (c := c) (z := z) (t := t) (ls := ls) (st := st) (M := M) (top := top) h
  | 6, h => x_a6 (B := B) (S0 := S0) (pc := pc) (a := a) (b := b) (c := c) (z := z) (t := t) (ls := ls) (st := st) (M := M) (top := top) h
  | 7, h => x_a7 (B := B) (S0 := S0) (pc := pc) (a := a) (b := b) (c := c) (z := z) (t := t) (ls := ls) (st := st) (M := M) (top := top) h
  | 8, h => x_a8 (B := B) (S0 := S0) (pc := pc) (a := a) (b := b) (c := c) (z := z) (t := t) (ls := ls) (st := st) (M := M) (top := top) h
  | 9, h => x_a9 (B := B) (S0 := S0) (pc := pc) (a := a) (b := b) (c := c) (z := z) (t := t) (ls := ls) (st := st) (M := M) (top := top) h
  | 10, h => x_a10 (B := B) (S0 := S0) (pc := pc) (a := a) (b := b) (c := c) (z := z) (t := t) (ls := ls) (st := st) (M := M) (top := top) h
  | 11, h => x_a11 (B := B) (S0 := S0) (pc := pc) (a := a) (b := b) (c := c) (z := z) (t := t) (ls := ls) (st := st) (M := M) (top := top) h
  | 12, h => x_a12 (B := B) (S0 := S0) (pc := pc) (a := a) (b := b) (c := c) (z := z) (t := t) (ls := ls) (st := st) (M := M) (top := top) h
  | 13, h => x_a13 (B := B) (S0 := S0) (pc := pc) (a := a) (b := b) (c := c) (z := z) (t := t) (ls := ls) (st := st) (M := M) (top := top) h
  | 14, h => x_a14 (B := B) (S0 := S0) (pc := pc) (a := a) (b := b) (c := c) (z := z) (t := t) (ls := ls) (st := st) (M := M) (top := top) h
  | 15, h => x_a15 (B := B) (S0 := S0) (pc := pc) (a := a) (b := b) (c := c) (z := z) (t := t) (ls := ls) (st := st) (M := M) (top := top) h
  | 16, h => x_a16 (B := B) (S0 := S0) (pc := pc) (a := a) (b := b) (c := c) (z := z) (t := t) (ls := ls) (st := st) (M := M) (top := top) h
  | 17, h => x_a17 (B := B) (S0 := S0) (pc := pc) (a := a) (b := b) (c := c) (z := z) (t := t) (ls := ls) (st := st) (M := M) (top := top) h
  | 18, h => x_a18 (B := B) (S0 := S0) (pc := pc) (a := a) (b := b) (c := c) (z := z) (t := t) (ls := ls) (st := st) (M := M) (top := top) h
  | 19, h => x_a19 (B := B) (S0 := S0) (pc := pc) (a := a) (b := b) (c := c) (z := z) (t := t) (ls := ls) (st := st) (M := M) (top := top) h
  | 20, h => x_a20 (B := B) (S0 := S0) (pc := pc) (a := a) (b := b) (c := c) (z := z) (t := t) (ls := ls) (st := st) (M := M) (top := top) h
  | 21, h => x_a21 (B := B) (S0 := S0) (pc := pc) (a := a) (b := b) (c := c) (z := z) (t := t) (ls := ls) (st := st) (M := M) (top := top) h
  | 22, h => x_a22 (B := B) (S0 := S0) (pc := pc) (a := a) (b := b) (c := c) (z := z) (t := t) (ls := ls) (st := st) (M := M) (top := top) h
  | 23, h => x_a23 (B := B) (S0 := S0) (pc := pc) (a := a) (b := b) (c := c) (z := z) (t := t) (ls := ls) (st := st) (M := M) (top := top) h
  | 24, h => x_a24 (B := B) (S0 := S0) (pc := pc) (a := a) (b := b) (c := c) (z := z) (t := t) (ls := ls) (st := st) (M := M) (top := top) h
  | 25, h => x_a25 (B := B) (S0 := S0) (pc := pc) (a := a) (b := b) (c := c) (z := z) (t := t) (ls := ls) (st := st) (M := M) (top := top) h
  | 26, h => x_a26 (B := B) (S0 := S0) (pc := pc) (a := a) (b := b) (c := c) (z := z) (t := t) (ls := ls) (st := st) (M := M) (top := top) h
  | 27, h => x_a27 (B := B) (S0 := S0) (pc := pc) (a := a) (b := b) (c := c) (z := z) (t := t) (ls := ls) (st := st) (M := M) (top := top) h
  | 28, h => x_a28 (B := B) (S0 := S0) (pc := pc) (a := a) (b := b) (c := c) (z := z) (t := t) (ls := ls) (st := st) (M := M) (top := top) h
  | 29, h => x_a29 (B := B) (S0 := S0) (pc := pc) (a := a) (b := b) (c := c) (z := z) (t := t) (ls := ls) (st := st) (M := M) (top := top) h
  | 30, h => x_a30 (B := B) (S0 := S0) (pc := pc) (a := a) (b := b) (c := c) (z := z) (t := t) (ls := ls) (st := st) (M := M) (top := top) h
  | 31, h => x_a31 (B := B) (S0 := S0) (pc := pc) (a := a) (b := b) (c := c) (z := z) (t := t) (ls := ls) (st := st) (M := M) (top := top) h
  | 32, h => x_a32 (B := B) (S0 := S0) (pc := pc) (a := a) (b := b) (c := c) (z := z) (t := t) (ls := ls) (st := st) (M := M) (top := top) h
  | 33, h => x_a33 (B := B) (S0 := S0) (pc := pc) (a := a) (b := b) (c := c) (z := z) (t := t) (ls := ls) (st := st) (M := M) (top := top) h
  | 34, h => x_a34 (B := B) (S0 := S0) (pc := pc) (a := a) (b := b) (c := c) (z := z) (t := t) (ls := ls) (st := st) (M := M) (top := top) h
  | 35, h => x_a35 (B := B) (S0 := S0) (pc := pc) (a := a) (b := b) (c := c) (z := z) (t := t) (ls := ls) (st := st) (M := M) (top := top) h
  | 36, h => x_a36 (B := B) (S0 := S0) (pc := pc) (a := a) (b := b) (c := c) (z := z) (t := t) (ls := ls) (st := st) (M := M) (top := top) h
  | 37, h => x_a37 (B := B) (S0 := S0) (pc := pc) (a := a) (b := b) (c := c) (z := z) (t := t) (ls := ls) (st := st) (M := M) (top := top) h
  | 38, h => x_a38 (B := B) (S0 := S0) (pc := pc) (a := a) (b := b) (c := c) (z := z) (t := t) (ls := ls) (st := st) (M := M) (top := top) h
  | 39, h => x_a39 (B := B) (S0 := S0) (pc := pc) (a := a) (b := b) (c := c) (z := z) (t := t) (ls := ls) (st := st) (M := M) (top := top) h
  | n + 40, h => by cases h
theorem x_m0 (hB : x_Bl ρ B) (hK : ∀ j p l s m t2 o1 lg1, top ≤ t2 → K1 j p l s m t2 o1 = some (r0, o9, lg1) → (∀ e ∈ lg1, x_ho ρ e) → K2 j p (l.map (x_dv ρ)) (s.map (x_dv ρ)) (x_dM ρ m) t2) (h : x_s0 x_fR x_brR x_bsR x_arR K1 B S0 pc a b c z t ls st M top o = some (r0, o9, lg)) (hl : ∀ e ∈ lg, x_ho ρ e) : x_s0 False x_brP x_bsP x_arP K2 B S0 pc a b c z t (ls.map (x_dv ρ)) (st.map (x_dv ρ)) (x_dM ρ M) top := by
  unfold x_s0 at h
  obtain ⟨hc, h⟩ := x_br_b h
  have q := hK _ _ _ _ _ _ _ _ (Nat.le_refl _) h hl
  unfold x_s0
  refine x_brP_i hc ?_
  rw [List.map_cons, x_dvI, x_dn_li hc] at q
  exact q
theorem x_m1 (hB : x_Bl ρ B) (hK : ∀ j p l s m t2 o1 lg1, top ≤ t2 → K1 j p l s m t2 o1 = some (r0, o9, lg1) → (∀ e ∈ lg1, x_ho ρ e) → K2 j p (l.map (x_dv ρ)) (s.map (x_dv ρ)) (x_dM ρ m) t2) (h : x_s1 x_fR x_brR x_bsR x_arR K1 B S0 pc a b c z t ls st M top o = some (r0, o9, lg)) (hl : ∀ e ∈ lg, x_ho ρ e) : x_s1 False x_brP x_bsP x_arP K2 B S0 pc a b c z t (ls.map (x_dv ρ)) (st.map (x_dv ρ)) (x_dM ρ M) top := by
  unfold x_s1 at h
  obtain ⟨hc, h⟩ := x_br_b h
  have q := hK _ _ _ _ _ _ _ _ (Nat.le_refl _) h hl
  unfold x_s1
  refine x_brP_i hc ?_
  rw [List.map_cons, x_dvL, x_dn_li hc] at q
  exact q
theorem x_m2 (hB : x_Bl ρ B) (hK : ∀ j p l s m t2 o1 lg1, top ≤ t2 → K1 j p l s m t2 o1 = some (r0, o9, lg1) → (∀ e ∈ lg1, x_ho ρ e) → K2 j p (l.map (x_dv ρ)) (s.map (x_dv ρ)) (x_dM ρ m) t2) (h : x_s2 x_fR x_brR x_bsR x_arR K1 B S0 pc a b c z t ls st M top o = some (r0, o9, lg)) (hl : ∀ e ∈ lg, x_ho ρ e) : x_s2 False x_brP x_bsP x_arP K2 B S0 pc a b c z t (ls.map (x_dv ρ)) (st.map (x_dv ρ)) (x_dM ρ M) top := by
  unfold x_s2 at h
  obtain ⟨x, r, e⟩ := x_eI_b (fun e => by rw [e] at h; cases h)
  rw [e, x_eI_e] at h
  replace e := (List.cons.inj e).1
  have q := hK _ _ _ _ _ _ _ _ (Nat.le_refl _) h hl
  unfold x_s2
  rw [x_get_dv, e, x_dvI, x_eI_e]
  exact q
theorem x_m3 (hB : x_Bl ρ B) (hK : ∀ j p l s m t2 o1 lg1, top ≤ t2 → K1 j p l s m t2 o1 = some (r0, o9, lg1) → (∀ e ∈ lg1, x_ho ρ e) → K2 j p (l.map (x_dv ρ)) (s.map (x_dv ρ)) (x_dM ρ m) t2) (h : x_s3 x_fR x_brR x_bsR x_arR K1 B S0 pc a b c z t ls st M top o = some (r0, o9, lg)) (hl : ∀ e ∈ lg, x_ho ρ e) : x_s3 False x_brP x_bsP x_arP K2 B S0 pc a b c z t (ls.map (x_dv ρ)) (st.map (x_dv ρ)) (x_dM ρ M) top := by
  unfold x_s3 at h
  obtain ⟨x, r, e⟩ := x_eL_b (fun e => by rw [e] at h; cases h)
  rw [e, x_eL_e] at h
  replace e := (List.cons.inj e).1
  have q := hK _ _ _ _ _ _ _ _ (Nat.le_refl _) h hl
  unfold x_s3
  rw [x_get_dv, e, x_dvL, x_eL_e]
  exact q
theorem x_m4 (hB : x_Bl ρ B) (hK : ∀ j p l s m t2 o1 lg1, top ≤ t2 → K1 j p l s m t2 o1 = some (r0, o9, lg1) → (∀ e ∈ lg1, x_ho ρ e) → K2 j p (l.map (x_dv ρ)) (s.map (x_dv ρ)) (x_dM ρ m) t2) (h : x_s4 x_fR x_brR x_bsR x_arR K1 B S0 pc a b c z t ls st M top o = some (r0, o9, lg)) (hl : ∀ e ∈ lg, x_ho ρ e) : x_s4 False x_brP x_bsP x_arP K2 B S0 pc a b c z t (ls.map (x_dv ρ)) (st.map (x_dv ρ)) (x_dM ρ M) top := by
  unfold x_s4 at h
  obtain ⟨x, r, e, qx⟩ := x_eA_b (fun e => by rw [e] at h; cases h)
  rw [e, x_eA_e qx] at h
  replace e := (List.cons.inj e).1
  have q := hK _ _ _ _ _ _ _ _ (Nat.le_refl _) h hl
  unfold x_s4
  rw [x_get_dv, e, x_dvA qx, x_eA_e qx]
  rw [List.map_cons, x_dvA qx] at q
  exact q
theorem x_m5 (hB : x_Bl ρ B) (hK : ∀ j p l s m t2 o1 lg1, top ≤ t2 → K1 j p l s m t2 o1 = some (r0, o9, lg1) → (∀ e ∈ lg1, x_ho ρ e) → K2 j p (l.map (x_dv ρ)) (s.map (x_dv ρ)) (x_dM ρ m) t2) (h : x_s5 x_fR x_brR x_bsR x_arR K1 B S0 pc a b c z t ls st M top o = some (r0, o9, lg)) (hl : ∀ e ∈ lg, x_ho ρ e) : x_s5 False x_brP x_bsP x_arP K2 B S0 pc a b c z t (ls.map (x_dv ρ)) (st.map (x_dv ρ)) (x_dM ρ M) top := by
  unfold x_s5 at h
  obtain ⟨x, r, e⟩ := x_eI_b (fun e => by rw [e] at h; cases h)
  subst e
  rw [x_eI_e] at h
  rw [x_l1_e] at h
  have q := hK _ _ _ _ _ _ _ _ (Nat.le_refl _) h hl
  unfold x_s5
  rw [List.map_cons, x_dvI, x_eI_e]
  rw [x_l1_e]
  rw [x_e1_dn] at q
  exact q
theorem x_m6 (hB : x_Bl ρ B) (hK : ∀ j p l s m t2 o1 lg1, top ≤ t2 → K1 j p l s m t2 o1 = some (r0, o9, lg1) → (∀ e ∈ lg1, x_ho ρ e) → K2 j p (l.map (x_dv ρ)) (s.map (x_dv ρ)) (x_dM ρ m) t2) (h : x_s6 x_fR x_brR x_bsR x_arR K1 B S0 pc a b c z t ls st M top o = some (r0, o9, lg)) (hl : ∀ e ∈ lg, x_ho ρ e) : x_s6 False x_brP x_bsP x_arP K2 B S0 pc a b c z t (ls.map (x_dv ρ)) (st.map (x_dv ρ)) (x_dM ρ M) top := by
  unfold x_s6 at h
  obtain ⟨x, r, e⟩ := x_eL_b (fun e => by rw [e] at h; cases h)
  subst e
  rw [x_eL_e] at h
  rw [x_l2_e] at h
  have q := hK _ _ _ _ _ _ _ _ (Nat.le_refl _) h hl
  unfold x_s6
  rw [List.map_cons, x_dvL, x_eL_e]
  rw [x_l2_e]
  rw [x_e2_dn] at q
  exact q
theorem x_m7 (hB : x_Bl ρ B) (hK : ∀ j p l s m t2 o1 lg1, top ≤ t2 → K1 j p l s m t2 o1 = some (r0, o9, lg1) → (∀ e ∈ lg1, x_ho ρ e) → K2 j p (l.map (x_dv ρ)) (s.map (x_dv ρ)) (x_dM ρ m) t2) (h : x_s7 x_fR x_brR x_bsR x_arR K1 B S0 pc a b c z t ls st M top o = some (r0, o9, lg)) (hl : ∀ e ∈ lg, x_ho ρ e) : x_s7 False x_brP x_bsP x_arP K2 B S0 pc a b c z t (ls.map (x_dv ρ)) (st.map (x_dv ρ)) (x_dM ρ M) top := by
  unfold x_s7 at h
  obtain ⟨x, r, e, qx⟩ := x_eA_b (fun e => by rw [e] at h; cases h)
  subst e
  rw [x_eA_e qx] at h
  rw [x_l1_e] at h
  have q := hK _ _ _ _ _ _ _ _ (Nat.le_refl _) h hl
  unfold x_s7
  rw [List.map_cons, x_dvA qx, x_eA_e qx]
  rw [x_l1_e]
  rw [x_e1_dn, x_dvA qx] at q
  exact q
theorem x_m8 (hB : x_Bl ρ B) (hK : ∀ j p l s m t2 o1 lg1, top ≤ t2 → K1 j p l s m t2 o1 = some (r0, o9, lg1) → (∀ e ∈ lg1, x_ho ρ e) → K2 j p (l.map (x_dv ρ)) (s.map (x_dv ρ)) (x_dM ρ m) t2) (h : x_s8 x_fR x_brR x_bsR x_arR K1 B S0 pc a b c z t ls st M top o = some (r0, o9, lg)) (hl : ∀ e ∈ lg, x_ho ρ e) : x_s8 False x_brP x_bsP x_arP K2 B S0 pc a b c z t (ls.map (x_dv ρ)) (st.map (x_dv ρ)) (x_dM ρ M) top := by
  unfold x_s8 at h
  obtain ⟨x, r, e⟩ := x_eI_b (fun e => by rw [e] at h; cases h)
  rw [e, x_eI_e] at h
  replace e := (List.cons.inj e).1
  obtain ⟨hc, h⟩ := x_br_b h
  obtain ⟨w, o1, lg1, h, hl, ew⟩ := x_ar_b h hl (by decide)
  rw [x_l1_e] at h
  have q := hK _ _ _ _ _ _ _ _ (Nat.le_refl _) h hl
  unfold x_s8
  rw [x_get_dv, e, x_dvI, x_eI_e]
  refine x_brP_i hc ?_
  unfold x_arP
  rw [show x_dn ρ z = z from x_dn_li hc] at ew
  rw [ew]
  rw [x_l1_e]
  rw [x_e1_dn] at q
  exact q
theorem x_m9 (hB : x_Bl ρ B) (hK : ∀ j p l s m t2 o1 lg1, top ≤ t2 → K1 j p l s m t2 o1 = some (r0, o9, lg1) → (∀ e ∈ lg1, x_ho ρ e) → K2 j p (l.map (x_dv ρ)) (s.map (x_dv ρ)) (x_dM ρ m) t2) (h : x_s9 x_fR x_brR x_bsR x_arR K1 B S0 pc a b c z t ls st M top o = some (r0, o9, lg)) (hl : ∀ e ∈ lg, x_ho ρ e) : x_s9 False x_brP x_bsP x_arP K2 B S0 pc a b c z t (ls.map (x_dv ρ)) (st.map (x_dv ρ)) (x_dM ρ M) top := by
  unfold x_s9 at h
  obtain ⟨y, r, e⟩ := x_eI_b (fun e => by rw [e] at h; cases h)
  subst e
  rw [x_eI_e] at h
  obtain ⟨x, r2, e⟩ := x_eI_b (fun e => by rw [e] at h; cases h)
  subst e
  rw [x_eI_e] at h
  obtain ⟨hc, h⟩ := x_br_b h
  obtain ⟨w, o1, lg1, h, hl, ew⟩ := x_ar_b h hl (by decide)
  have q := hK _ _ _ _ _ _ _ _ (Nat.le_refl _) h hl
  unfold x_s9
  rw [List.map_cons, x_dvI, x_eI_e]
  rw [List.map_cons, x_dvI, x_eI_e]
  refine x_brP_i (x_ck_dn hc) ?_
  unfold x_arP
  rw [ew]
  exact q
theorem x_m10 (hB : x_Bl ρ B) (hK : ∀ j p l s m t2 o1 lg1, top ≤ t2 → K1 j p l s m t2 o1 = some (r0, o9, lg1) → (∀ e ∈ lg1, x_ho ρ e) → K2 j p (l.map (x_dv ρ)) (s.map (x_dv ρ)) (x_dM ρ m) t2) (h : x_s10 x_fR x_brR x_bsR x_arR K1 B S0 pc a b c z t ls st M top o = some (r0, o9, lg)) (hl : ∀ e ∈ lg, x_ho ρ e) : x_s10 False x_brP x_bsP x_arP K2 B S0 pc a b c z t (ls.map (x_dv ρ)) (st.map (x_dv ρ)) (x_dM ρ M) top := by
  unfold x_s10 at h
  obtain ⟨y, r, e⟩ := x_eL_b (fun e => by rw [e] at h; cases h)
  subst e
  rw [x_eL_e] at h
  obtain ⟨x, r2, e⟩ := x_eL_b (fun e => by rw [e] at h; cases h)
  subst e
  rw [x_eL_e] at h
  obtain ⟨hc, h⟩ := x_br_b h
  obtain ⟨w, o1, lg1, h, hl, ew⟩ := x_ar_b h hl (by decide)
  have q := hK _ _ _ _ _ _ _ _ (Nat.le_refl _) h hl
  unfold x_s10
  rw [List.map_cons, x_dvL, x_eL_e]
  rw [List.map_cons, x_dvL, x_eL_e]
  refine x_brP_i (x_ck_dn hc) ?_
  unfold x_arP
  rw [ew]
  exact q
theorem x_m11 (hB : x_Bl ρ B) (hK : ∀ j p l s m t2 o1 lg1, top ≤ t2 → K1 j p l s m t2 o1 = some (r0, o9, lg1) → (∀ e ∈ lg1, x_ho ρ e) → K2 j p (l.map (x_dv ρ)) (s.map (x_dv ρ)) (x_dM ρ m) t2) (h : x_s11 x_fR x_brR x_bsR x_arR K1 B S0 pc a b c z t ls st M top o = some (r0, o9, lg)) (hl : ∀ e ∈ lg, x_ho ρ e) : x_s11 False x_brP x_bsP x_arP K2 B S0 pc a b c z t (ls.map (x_dv ρ)) (st.map (x_dv ρ)) (x_dM ρ M) top := by
  unfold x_s11 at h
  obtain ⟨y, r, e⟩ := x_eI_b (fun e => by rw [e] at h; cases h)
  subst e
  rw [x_eI_e] at h
  obtain ⟨x, r2, e⟩ := x_eL_b (fun e => by rw [e] at h; cases h)
  subst e
  rw [x_eL_e] at h
  obtain ⟨w, o1, lg1, h, hl, ew⟩ := x_ar_b h hl (by decide)
  have q := hK _ _ _ _ _ _ _ _ (Nat.le_refl _) h hl
  unfold x_s11
  rw [List.map_cons, x_dvI, x_eI_e]
  rw [List.map_cons, x_dvL, x_eL_e]
  unfold x_arP
  rw [ew]
  exact q
theorem x_m12 (hB : x_Bl ρ B) (hK : ∀ j p l s m t2 o1 lg1, top ≤ t2 → K1 j p l s m t2 o1 = some (r0, o9, lg1) → (∀ e ∈ lg1, x_ho ρ e) → K2 j p (l.map (x_dv ρ)) (s.map (x_dv ρ)) (x_dM ρ m) t2) (h : x_s12 x_fR x_brR x_bsR x_arR K1 B S0 pc a b c z t ls st M top o = some (r0, o9, lg)) (hl : ∀ e ∈ lg, x_ho ρ e) : x_s12 False x_brP x_bsP x_arP K2 B S0 pc a b c z t (ls.map (x_dv ρ)) (st.map (x_dv ρ)) (x_dM ρ M) top := by
  unfold x_s12 at h
  obtain ⟨x, r, e⟩ := x_eI_b (fun e => by rw [e] at h; cases h)
  subst e
  rw [x_eI_e] at h
  obtain ⟨w, o1, lg1, h, hl, ew⟩ := x_ar_b h hl (by decide)
  have q := hK _ _ _ _ _ _ _ _ (Nat.le_refl _) h hl
  unfold x_s12
  rw [List.map_cons, x_dvI, x_eI_e]
  unfold x_arP
  rw [show x_dn ρ (0 : Int) = 0 from rfl] at ew
  rw [ew]
  exact q
theorem x_m13 (hB : x_Bl ρ B) (hK : ∀ j p l s m t2 o1 lg1, top ≤ t2 → K1 j p l s m t2 o1 = some (r0, o9, lg1) → (∀ e ∈ lg1, x_ho ρ e) → K2 j p (l.map (x_dv ρ)) (s.map (x_dv ρ)) (x_dM ρ m) t2) (h : x_s13 x_fR x_brR x_bsR x_arR K1 B S0 pc a b c z t ls st M top o = some (r0, o9, lg)) (hl : ∀ e ∈ lg, x_ho ρ e) : x_s13 False x_brP x_bsP x_arP K2 B S0 pc a b c z t (ls.map (x_dv ρ)) (st.map (x_dv ρ)) (x_dM ρ M) top := by
  unfold x_s13 at h
  obtain ⟨x, r, e⟩ := x_eL_b (fun e => by rw [e] at h; cases h)
  subst e
  rw [x_eL_e] at h
  obtain ⟨w, o1, lg1, h, hl, ew⟩ := x_ar_b h hl (by decide)
  have q := hK _ _ _ _ _ _ _ _ (Nat.le_refl _) h hl
  unfold x_s13
  rw [List.map_cons, x_dvL, x_eL_e]
  unfold x_arP
  rw [show x_dn ρ (0 : Int) = 0 from rfl] at ew
  rw [ew]
  exact q
theorem x_m14 (hB : x_Bl ρ B) (hK : ∀ j p l s m t2 o1 lg1, top ≤ t2 → K1 j p l s m t2 o1 = some (r0, o9, lg1) → (∀ e ∈ lg1, x_ho ρ e) → K2 j p (l.map (x_dv ρ)) (s.map (x_dv ρ)) (x_dM ρ m) t2) (h : x_s14 x_fR x_brR x_bsR x_arR K1 B S0 pc a b c z t ls st M top o = some (r0, o9, lg)) (hl : ∀ e ∈ lg, x_ho ρ e) : x_s14 False x_brP x_bsP x_arP K2 B S0 pc a b c z t (ls.map (x_dv ρ)) (st.map (x_dv ρ)) (x_dM ρ M) top := by
  unfold x_s14 at h
  obtain ⟨x, r, e⟩ := x_eI_b (fun e => by rw [e] at h; cases h)
  subst e
  rw [x_eI_e] at h
  have q := hK _ _ _ _ _ _ _ _ (Nat.le_refl _) h hl
  unfold x_s14
  rw [List.map_cons, x_dvI, x_eI_e]
  exact q
theorem x_m15 (hB : x_Bl ρ B) (hK : ∀ j p l s m t2 o1 lg1, top ≤ t2 → K1 j p l s m t2 o1 = some (r0, o9, lg1) → (∀ e ∈ lg1, x_ho ρ e) → K2 j p (l.map (x_dv ρ)) (s.map (x_dv ρ)) (x_dM ρ m) t2) (h : x_s15 x_fR x_brR x_bsR x_arR K1 B S0 pc a b c z t ls st M top o = some (r0, o9, lg)) (hl : ∀ e ∈ lg, x_ho ρ e) : x_s15 False x_brP x_bsP x_arP K2 B S0 pc a b c z t (ls.map (x_dv ρ)) (st.map (x_dv ρ)) (x_dM ρ M) top := by
  unfold x_s15 at h
  obtain ⟨x, r, e⟩ := x_eL_b (fun e => by rw [e] at h; cases h)
  subst e
  rw [x_eL_e] at h
  obtain ⟨w, o1, lg1, h, hl, ew⟩ := x_ar_b h hl (by decide)
  have q := hK _ _ _ _ _ _ _ _ (Nat.le_refl _) h hl
  unfold x_s15
  rw [List.map_cons, x_dvL, x_eL_e]
  unfold x_arP
  rw [show x_dn ρ (0 : Int) = 0 from rfl] at ew
  rw [ew]
  exact q
theorem x_m16 (hB : x_Bl ρ B) (hK : ∀ j p l s m t2 o1 lg1, top ≤ t2 → K1 j p l s m t2 o1 = some (r0, o9, lg1) → (∀ e ∈ lg1, x_ho ρ e) → K2 j p (l.map (x_dv ρ)) (s.map (x_dv ρ)) (x_dM ρ m) t2) (h : x_s16 x_fR x_brR x_bsR x_arR K1 B S0 pc a b c z t ls st M top o = some (r0, o9, lg)) (hl : ∀ e ∈ lg, x_ho ρ e) : x_s16 False x_brP x_bsP x_arP K2 B S0 pc a b c z t (ls.map (x_dv ρ)) (st.map (x_dv ρ)) (x_dM ρ M) top := by
  unfold x_s16 at h
  obtain ⟨y, r, e⟩ := x_eL_b (fun e => by rw [e] at h; cases h)
  subst e
  rw [x_eL_e] at h
  obtain ⟨x, r2, e⟩ := x_eL_b (fun e => by rw [e] at h; cases h)
  subst e
  rw [x_eL_e] at h
  obtain ⟨w, o1, lg1, h, hl, ew⟩ := x_ar_b h hl (by decide)
  have q := hK _ _ _ _ _ _ _ _ (Nat.le_refl _) h hl
  unfold x_s16
  rw [List.map_cons, x_dvL, x_eL_e]
  rw [List.map_cons, x_dvL, x_eL_e]
  unfold x_arP
  rw [ew]
  exact q
theorem x_m17 (hB : x_Bl ρ B) (hK : ∀ j p l s m t2 o1 lg1, top ≤ t2 → K1 j p l s m t2 o1 = some (r0, o9, lg1) → (∀ e ∈ lg1, x_ho ρ e) → K2 j p (l.map (x_dv ρ)) (s.map (x_dv ρ)) (x_dM ρ m) t2) (h : x_s17 x_fR x_brR x_bsR x_arR K1 B S0 pc a b c z t ls st M top o = some (r0, o9, lg)) (hl : ∀ e ∈ lg, x_ho ρ e) : x_s17 False x_brP x_bsP x_arP K2 B S0 pc a b c z t (ls.map (x_dv ρ)) (st.map (x_dv ρ)) (x_dM ρ M) top := by
  unfold x_s17 at h
  obtain ⟨x, r, e⟩ := x_eI_b (fun e => by rw [e] at h; cases h)
  subst e
  rw [x_eI_e] at h
  rcases x_bs_b h hl with ⟨o1, lg1, h, hl, hc⟩ | ⟨o1, lg1, h, hl, hc⟩
  · unfold x_s17
    rw [List.map_cons, x_dvI, x_eI_e]
    exact x_brP_1 hc (hK _ _ _ _ _ _ _ _ (Nat.le_refl _) h hl)
  · unfold x_s17
    rw [List.map_cons, x_dvI, x_eI_e]
    exact x_brP_2 hc (hK _ _ _ _ _ _ _ _ (Nat.le_refl _) h hl)
theorem x_m18 (hB : x_Bl ρ B) (hK : ∀ j p l s m t2 o1 lg1, top ≤ t2 → K1 j p l s m t2 o1 = some (r0, o9, lg1) → (∀ e ∈ lg1, x_ho ρ e) → K2 j p (l.map (x_dv ρ)) (s.map (x_dv ρ)) (x_dM ρ m) t2) (h : x_s18 x_fR x_brR x_bsR x_arR K1 B S0 pc a b c z t ls st M top o = some (r0, o9, lg)) (hl : ∀ e ∈ lg, x_ho ρ e) : x_s18 False x_brP x_bsP x_arP K2 B S0 pc a b c z t (ls.map (x_dv ρ)) (st.map (x_dv ρ)) (x_dM ρ M) top := by
  unfold x_s18 at h
  obtain ⟨y, r, e⟩ := x_eI_b (fun e => by rw [e] at h; cases h)
  subst e
  rw [x_eI_e] at h
  obtain ⟨x, r2, e⟩ := x_eI_b (fun e => by rw [e] at h; cases h)
  subst e
  rw [x_eI_e] at h
  rcases x_bs_b h hl with ⟨o1, lg1, h, hl, hc⟩ | ⟨o1, lg1, h, hl, hc⟩
  · unfold x_s18
    rw [List.map_cons, x_dvI, x_eI_e]
    rw [List.map_cons, x_dvI, x_eI_e]
    exact x_brP_1 hc (hK _ _ _ _ _ _ _ _ (Nat.le_refl _) h hl)
  · unfold x_s18
    rw [List.map_cons, x_dvI, x_eI_e]
    rw [List.map_cons, x_dvI, x_eI_e]
    exact x_brP_2 hc (hK _ _ _ _ _ _ _ _ (Nat.le_refl _) h hl)
theorem x_m19 (hB : x_Bl ρ B) (hK : ∀ j p l s m t2 o1 lg1, top ≤ t2 → K1 j p l s m t2 o1 = some (r0, o9, lg1) → (∀ e ∈ lg1, x_ho ρ e) → K2 j p (l.map (x_dv ρ)) (s.map (x_dv ρ)) (x_dM ρ m) t2) (h : x_s19 x_fR x_brR x_bsR x_arR K1 B S0 pc a b c z t ls st M top o = some (r0, o9, lg)) (hl : ∀ e ∈ lg, x_ho ρ e) : x_s19 False x_brP x_bsP x_arP K2 B S0 pc a b c z t (ls.map (x_dv ρ)) (st.map (x_dv ρ)) (x_dM ρ M) top := by
  unfold x_s19 at h
  have q := hK _ _ _ _ _ _ _ _ (Nat.le_refl _) h hl
  unfold x_s19
  exact q
theorem x_m20 (hB : x_Bl ρ B) (hK : ∀ j p l s m t2 o1 lg1, top ≤ t2 → K1 j p l s m t2 o1 = some (r0, o9, lg1) → (∀ e ∈ lg1, x_ho ρ e) → K2 j p (l.map (x_dv ρ)) (s.map (x_dv ρ)) (x_dM ρ m) t2) (h : x_s20 x_fR x_brR x_bsR x_arR K1 B S0 pc a b c z t ls st M top o = some (r0, o9, lg)) (hl : ∀ e ∈ lg, x_ho ρ e) : x_s20 False x_brP x_bsP x_arP K2 B S0 pc a b c z t (ls.map (x_dv ρ)) (st.map (x_dv ρ)) (x_dM ρ M) top := by
  unfold x_s20 at h
  obtain ⟨v, r, e, wv, uv⟩ := x_eS_b (fun e => by rw [e] at h; cases h)
  subst e
  rw [x_eS_e wv uv] at h
  have q := hK _ _ _ _ _ _ _ _ (Nat.le_refl _) h hl
  unfold x_s20
  rw [List.map_cons, x_eS_e (x_dvS wv uv).1 (x_dvS wv uv).2]
  exact q
theorem x_m21 (hB : x_Bl ρ B) (hK : ∀ j p l s m t2 o1 lg1, top ≤ t2 → K1 j p l s m t2 o1 = some (r0, o9, lg1) → (∀ e ∈ lg1, x_ho ρ e) → K2 j p (l.map (x_dv ρ)) (s.map (x_dv ρ)) (x_dM ρ m) t2) (h : x_s21 x_fR x_brR x_bsR x_arR K1 B S0 pc a b c z t ls st M top o = some (r0, o9, lg)) (hl : ∀ e ∈ lg, x_ho ρ e) : x_s21 False x_brP x_bsP x_arP K2 B S0 pc a b c z t (ls.map (x_dv ρ)) (st.map (x_dv ρ)) (x_dM ρ M) top := by
  unfold x_s21 at h
  obtain ⟨v, r, e, wv, uv⟩ := x_eS_b (fun e => by rw [e] at h; cases h)
  subst e
  rw [x_eS_e wv uv] at h
  have q := hK _ _ _ _ _ _ _ _ (Nat.le_refl _) h hl
  unfold x_s21
  rw [List.map_cons, x_eS_e (x_dvS wv uv).1 (x_dvS wv uv).2]
  exact q
theorem x_m22 (hB : x_Bl ρ B) (hK : ∀ j p l s m t2 o1 lg1, top ≤ t2 → K1 j p l s m t2 o1 = some (r0, o9, lg1) → (∀ e ∈ lg1, x_ho ρ e) → K2 j p (l.map (x_dv ρ)) (s.map (x_dv ρ)) (x_dM ρ m) t2) (h : x_s22 x_fR x_brR x_bsR x_arR K1 B S0 pc a b c z t ls st M top o = some (r0, o9, lg)) (hl : ∀ e ∈ lg, x_ho ρ e) : x_s22 False x_brP x_bsP x_arP K2 B S0 pc a b c z t (ls.map (x_dv ρ)) (st.map (x_dv ρ)) (x_dM ρ M) top := by
  unfold x_s22 at h
  obtain ⟨x, r, e⟩ := x_eL_b (fun e => by rw [e] at h; cases h)
  subst e
  rw [x_eL_e] at h
  have q := hK _ _ _ _ _ _ _ _ (Nat.le_refl _) h hl
  unfold x_s22
  rw [List.map_cons, x_dvL, x_eL_e]
  exact q
theorem x_m23 (hB : x_Bl ρ B) (hK : ∀ j p l s m t2 o1 lg1, top ≤ t2 → K1 j p l s m t2 o1 = some (r0, o9, lg1) → (∀ e ∈ lg1, x_ho ρ e) → K2 j p (l.map (x_dv ρ)) (s.map (x_dv ρ)) (x_dM ρ m) t2) (h : x_s23 x_fR x_brR x_bsR x_arR K1 B S0 pc a b c z t ls st M top o = some (r0, o9, lg)) (hl : ∀ e ∈ lg, x_ho ρ e) : x_s23 False x_brP x_bsP x_arP K2 B S0 pc a b c z t (ls.map (x_dv ρ)) (st.map (x_dv ρ)) (x_dM ρ M) top := by
  unfold x_s23 at h
  obtain ⟨v, r, e, wv, uv⟩ := x_eS_b (fun e => by rw [e] at h; cases h)
  subst e
  rw [x_eS_e wv uv] at h
  obtain ⟨u, r2, e, wu, uu⟩ := x_eS_b (fun e => by rw [e] at h; cases h)
  subst e
  rw [x_eS_e wu uu] at h
  have q := hK _ _ _ _ _ _ _ _ (Nat.le_refl _) h hl
  unfold x_s23
  rw [List.map_cons, x_eS_e (x_dvS wv uv).1 (x_dvS wv uv).2]
  rw [List.map_cons, x_eS_e (x_dvS wu uu).1 (x_dvS wu uu).2]
  exact q
theorem x_m24 (hB : x_Bl ρ B) (hK : ∀ j p l s m t2 o1 lg1, top ≤ t2 → K1 j p l s m t2 o1 = some (r0, o9, lg1) → (∀ e ∈ lg1, x_ho ρ e) → K2 j p (l.map (x_dv ρ)) (s.map (x_dv ρ)) (x_dM ρ m) t2) (h : x_s24 x_fR x_brR x_bsR x_arR K1 B S0 pc a b c z t ls st M top o = some (r0, o9, lg)) (hl : ∀ e ∈ lg, x_ho ρ e) : x_s24 False x_brP x_bsP x_arP K2 B S0 pc a b c z t (ls.map (x_dv ρ)) (st.map (x_dv ρ)) (x_dM ρ M) top := by
  unfold x_s24 at h
  obtain ⟨x, r, e⟩ := x_eI_b (fun e => by rw [e] at h; cases h)
  subst e
  rw [x_eI_e] at h
  unfold x_s24
  rw [List.map_cons, x_dvI, x_eI_e]
  exact x_sw_m (fun p j o1 lg1 h hl => hK _ _ _ _ _ _ _ _ (Nat.le_refl _) h hl) h hl
theorem x_m25 (hB : x_Bl ρ B) (hK : ∀ j p l s m t2 o1 lg1, top ≤ t2 → K1 j p l s m t2 o1 = some (r0, o9, lg1) → (∀ e ∈ lg1, x_ho ρ e) → K2 j p (l.map (x_dv ρ)) (s.map (x_dv ρ)) (x_dM ρ m) t2) (h : x_s25 x_fR x_brR x_bsR x_arR K1 B S0 pc a b c z t ls st M top o = some (r0, o9, lg)) (hl : ∀ e ∈ lg, x_ho ρ e) : x_s25 False x_brP x_bsP x_arP K2 B S0 pc a b c z t (ls.map (x_dv ρ)) (st.map (x_dv ρ)) (x_dM ρ M) top := by
  unfold x_s25 at h
  obtain ⟨n, r, e, qn⟩ := x_eA_b (fun e => by rw [e] at h; cases h)
  subst e
  rw [x_eA_e qn] at h
  rw [x_eO_e] at h
  obtain ⟨hc, h⟩ := x_br_b h
  rw [x_fi_eq] at h
  have q := hK _ _ _ _ _ _ _ _ (Nat.le_refl _) h hl
  unfold x_s25
  rw [List.map_cons, x_dvA qn, x_eA_e qn]
  rw [x_rd_dn hB, x_eO_e]
  obtain ⟨k0, k1, k2, k3, k4⟩ := x_an5 hc
  dsimp only
  rw [x_get_dn k3]
  refine x_brP_i (x_an5i k0 k1 k2 k3 (x_tl_dn k4)) ?_
  rw [x_fi_eq]
  rw [List.map_cons, x_dv_val] at q
  exact q
theorem x_m26 (hB : x_Bl ρ B) (hK : ∀ j p l s m t2 o1 lg1, top ≤ t2 → K1 j p l s m t2 o1 = some (r0, o9, lg1) → (∀ e ∈ lg1, x_ho ρ e) → K2 j p (l.map (x_dv ρ)) (s.map (x_dv ρ)) (x_dM ρ m) t2) (h : x_s26 x_fR x_brR x_bsR x_arR K1 B S0 pc a b c z t ls st M top o = some (r0, o9, lg)) (hl : ∀ e ∈ lg, x_ho ρ e) : x_s26 False x_brP x_bsP x_arP K2 B S0 pc a b c z t (ls.map (x_dv ρ)) (st.map (x_dv ρ)) (x_dM ρ M) top := by
  unfold x_s26 at h
  obtain ⟨x, r, e, hx⟩ := x_eT_b (fun e => by rw [e] at h; cases h)
  subst e
  rw [x_eT_e hx] at h
  obtain ⟨n, r2, e, qn⟩ := x_eA_b (fun e => by rw [e] at h; cases h)
  subst e
  rw [x_eA_e qn] at h
  rw [x_eO_e] at h
  obtain ⟨hc, h⟩ := x_br_b h
  rw [x_sek_eq] at h
  rw [x_puk_eq] at h
  have q := hK _ _ _ _ _ _ _ _ (Nat.le_refl _) h hl
  unfold x_s26
  rw [List.map_cons, x_dv_val, x_eT_e (x_tx_dn hx)]
  rw [List.map_cons, x_dvA qn, x_eA_e qn]
  rw [x_rd_dn hB, x_eO_e]
  refine x_brP_i hc ?_
  rw [x_sek_eq]
  rw [x_puk_eq]
  rw [x_put_dn (x_an4 hc)] at q
  exact q
theorem x_m27 (hB : x_Bl ρ B) (hK : ∀ j p l s m t2 o1 lg1, top ≤ t2 → K1 j p l s m t2 o1 = some (r0, o9, lg1) → (∀ e ∈ lg1, x_ho ρ e) → K2 j p (l.map (x_dv ρ)) (s.map (x_dv ρ)) (x_dM ρ m) t2) (h : x_s27 x_fR x_brR x_bsR x_arR K1 B S0 pc a b c z t ls st M top o = some (r0, o9, lg)) (hl : ∀ e ∈ lg, x_ho ρ e) : x_s27 False x_brP x_bsP x_arP K2 B S0 pc a b c z t (ls.map (x_dv ρ)) (st.map (x_dv ρ)) (x_dM ρ M) top := by
  unfold x_s27 at h
  obtain ⟨i, r, e, qi⟩ := x_eN_b (fun e => by rw [e] at h; cases h)
  subst e
  rw [x_eN_e qi] at h
  obtain ⟨n, r2, e, qn⟩ := x_eA_b (fun e => by rw [e] at h; cases h)
  subst e
  rw [x_eA_e qn] at h
  rw [x_eO_e] at h
  obtain ⟨hc, h⟩ := x_br_b h
  rw [x_fi_eq] at h
  have q := hK _ _ _ _ _ _ _ _ (Nat.le_refl _) h hl
  unfold x_s27
  rw [List.map_cons, x_dvN qi, x_eN_e qi]
  rw [List.map_cons, x_dvA qn, x_eA_e qn]
  rw [x_rd_dn hB, x_eO_e]
  obtain ⟨k0, k1, k2, k3, k4⟩ := x_an5 hc
  dsimp only
  rw [x_get_dn k3]
  refine x_brP_i (x_an5i k0 k1 k2 k3 (x_tl_dn k4)) ?_
  rw [x_fi_eq]
  rw [List.map_cons, x_dv_val] at q
  exact q
theorem x_m28 (hB : x_Bl ρ B) (hK : ∀ j p l s m t2 o1 lg1, top ≤ t2 → K1 j p l s m t2 o1 = some (r0, o9, lg1) → (∀ e ∈ lg1, x_ho ρ e) → K2 j p (l.map (x_dv ρ)) (s.map (x_dv ρ)) (x_dM ρ m) t2) (h : x_s28 x_fR x_brR x_bsR x_arR K1 B S0 pc a b c z t ls st M top o = some (r0, o9, lg)) (hl : ∀ e ∈ lg, x_ho ρ e) : x_s28 False x_brP x_bsP x_arP K2 B S0 pc a b c z t (ls.map (x_dv ρ)) (st.map (x_dv ρ)) (x_dM ρ M) top := by
  unfold x_s28 at h
  obtain ⟨x, r, e, hx⟩ := x_eT_b (fun e => by rw [e] at h; cases h)
  subst e
  rw [x_eT_e hx] at h
  obtain ⟨i, r2, e, qi⟩ := x_eN_b (fun e => by rw [e] at h; cases h)
  subst e
  rw [x_eN_e qi] at h
  obtain ⟨n, r3, e, qn⟩ := x_eA_b (fun e => by rw [e] at h; cases h)
  subst e
  rw [x_eA_e qn] at h
  rw [x_eO_e] at h
  obtain ⟨hc, h⟩ := x_br_b h
  rw [x_sek_eq] at h
  rw [x_puk_eq] at h
  have q := hK _ _ _ _ _ _ _ _ (Nat.le_refl _) h hl
  unfold x_s28
  rw [List.map_cons, x_dv_val, x_eT_e (x_tx_dn hx)]
  rw [List.map_cons, x_dvN qi, x_eN_e qi]
  rw [List.map_cons, x_dvA qn, x_eA_e qn]
  rw [x_rd_dn hB, x_eO_e]
  refine x_brP_i hc ?_
  rw [x_sek_eq]
  rw [x_puk_eq]
  rw [x_put_dn (x_an4 hc)] at q
  exact q
theorem x_m29 (hB : x_Bl ρ B) (hK : ∀ j p l s m t2 o1 lg1, top ≤ t2 → K1 j p l s m t2 o1 = some (r0, o9, lg1) → (∀ e ∈ lg1, x_ho ρ e) → K2 j p (l.map (x_dv ρ)) (s.map (x_dv ρ)) (x_dM ρ m) t2) (h : x_s29 x_fR x_brR x_bsR x_arR K1 B S0 pc a b c z t ls st M top o = some (r0, o9, lg)) (hl : ∀ e ∈ lg, x_ho ρ e) : x_s29 False x_brP x_bsP x_arP K2 B S0 pc a b c z t (ls.map (x_dv ρ)) (st.map (x_dv ρ)) (x_dM ρ M) top := by
  unfold x_s29 at h
  obtain ⟨x, r, e⟩ := x_eI_b (fun e => by rw [e] at h; cases h)
  subst e
  rw [x_eI_e] at h
  obtain ⟨i, r2, e, qi⟩ := x_eN_b (fun e => by rw [e] at h; cases h)
  subst e
  rw [x_eN_e qi] at h
  obtain ⟨n, r3, e, qn⟩ := x_eA_b (fun e => by rw [e] at h; cases h)
  subst e
  rw [x_eA_e qn] at h
  rw [x_eO_e] at h
  obtain ⟨hc, h⟩ := x_br_b h
  obtain ⟨w, o1, lg1, h, hl, ew⟩ := x_ar_b h hl (by decide)
  rw [x_sek_eq] at h
  rw [x_puk_eq] at h
  have q := hK _ _ _ _ _ _ _ _ (Nat.le_refl _) h hl
  unfold x_s29
  rw [List.map_cons, x_dvI, x_eI_e]
  rw [List.map_cons, x_dvN qi, x_eN_e qi]
  rw [List.map_cons, x_dvA qn, x_eA_e qn]
  rw [x_rd_dn hB, x_eO_e]
  refine x_brP_i (x_b29 hc) ?_
  unfold x_arP
  rw [show x_dn ρ (0 : Int) = 0 from rfl] at ew
  rw [ew]
  rw [x_sek_eq]
  rw [x_puk_eq]
  rw [x_put_dn (x_an4 hc)] at q
  exact q
theorem x_m30 (hB : x_Bl ρ B) (hK : ∀ j p l s m t2 o1 lg1, top ≤ t2 → K1 j p l s m t2 o1 = some (r0, o9, lg1) → (∀ e ∈ lg1, x_ho ρ e) → K2 j p (l.map (x_dv ρ)) (s.map (x_dv ρ)) (x_dM ρ m) t2) (h : x_s30 x_fR x_brR x_bsR x_arR K1 B S0 pc a b c z t ls st M top o = some (r0, o9, lg)) (hl : ∀ e ∈ lg, x_ho ρ e) : x_s30 False x_brP x_bsP x_arP K2 B S0 pc a b c z t (ls.map (x_dv ρ)) (st.map (x_dv ρ)) (x_dM ρ M) top := by
  unfold x_s30 at h
  obtain ⟨x, r, e, qx⟩ := x_eA_b (fun e => by rw [e] at h; cases h)
  subst e
  rw [x_eA_e qx] at h
  obtain ⟨i, r2, e, qi⟩ := x_eN_b (fun e => by rw [e] at h; cases h)
  subst e
  rw [x_eN_e qi] at h
  obtain ⟨n, r3, e, qn⟩ := x_eA_b (fun e => by rw [e] at h; cases h)
  subst e
  rw [x_eA_e qn] at h
  rw [x_eO_e] at h
  rw [x_eO_e] at h
  obtain ⟨hc, h⟩ := x_br_b h
  rw [x_sek_eq] at h
  rw [x_puk_eq] at h
  have q := hK _ _ _ _ _ _ _ _ (Nat.le_refl _) h hl
  unfold x_s30
  rw [List.map_cons, x_dvA qx, x_eA_e qx]
  rw [List.map_cons, x_dvN qi, x_eN_e qi]
  rw [List.map_cons, x_dvA qn, x_eA_e qn]
  rw [x_rd_dn hB, x_eO_e]
  rw [x_rd_dn hB, x_eO_e]
  refine x_brP_i hc ?_
  rw [x_sek_eq]
  rw [x_puk_eq]
  rw [x_put_dn (x_an5d hc), x_dn_nat qx] at q
  exact q
theorem x_m31 (hB : x_Bl ρ B) (hK : ∀ j p l s m t2 o1 lg1, top ≤ t2 → K1 j p l s m t2 o1 = some (r0, o9, lg1) → (∀ e ∈ lg1, x_ho ρ e) → K2 j p (l.map (x_dv ρ)) (s.map (x_dv ρ)) (x_dM ρ m) t2) (h : x_s31 x_fR x_brR x_bsR x_arR K1 B S0 pc a b c z t ls st M top o = some (r0, o9, lg)) (hl : ∀ e ∈ lg, x_ho ρ e) : x_s31 False x_brP x_bsP x_arP K2 B S0 pc a b c z t (ls.map (x_dv ρ)) (st.map (x_dv ρ)) (x_dM ρ M) top := by
  unfold x_s31 at h
  obtain ⟨n, r, e, qn⟩ := x_eA_b (fun e => by rw [e] at h; cases h)
  subst e
  rw [x_eA_e qn] at h
  rw [x_eO_e] at h
  obtain ⟨hc, h⟩ := x_br_b h
  have q := hK _ _ _ _ _ _ _ _ (Nat.le_refl _) h hl
  unfold x_s31
  rw [List.map_cons, x_dvA qn, x_eA_e qn]
  rw [x_rd_dn hB, x_eO_e]
  refine x_brP_i hc ?_
  rw [List.map_cons, x_dvN (x_blt_ln (x_an (x_an hc).2).2)] at q
  exact q
theorem x_m32 (hB : x_Bl ρ B) (hK : ∀ j p l s m t2 o1 lg1, top ≤ t2 → K1 j p l s m t2 o1 = some (r0, o9, lg1) → (∀ e ∈ lg1, x_ho ρ e) → K2 j p (l.map (x_dv ρ)) (s.map (x_dv ρ)) (x_dM ρ m) t2) (h : x_s32 x_fR x_brR x_bsR x_arR K1 B S0 pc a b c z t ls st M top o = some (r0, o9, lg)) (hl : ∀ e ∈ lg, x_ho ρ e) : x_s32 False x_brP x_bsP x_arP K2 B S0 pc a b c z t (ls.map (x_dv ρ)) (st.map (x_dv ρ)) (x_dM ρ M) top := by
  unfold x_s32 at h
  obtain ⟨hc, h⟩ := x_br_b h
  rw [x_puk_eq] at h
  rw [x_fn_eq] at h
  have q := hK _ _ _ _ _ _ _ _ (Nat.le_succ _) h hl
  unfold x_s32
  refine x_brP_i hc ?_
  rw [x_puk_eq]
  rw [x_fn_eq]
  rw [x_new_dn, List.map_cons, x_dvT (x_an hc).2] at q
  exact q
theorem x_m33 (hB : x_Bl ρ B) (hK : ∀ j p l s m t2 o1 lg1, top ≤ t2 → K1 j p l s m t2 o1 = some (r0, o9, lg1) → (∀ e ∈ lg1, x_ho ρ e) → K2 j p (l.map (x_dv ρ)) (s.map (x_dv ρ)) (x_dM ρ m) t2) (h : x_s33 x_fR x_brR x_bsR x_arR K1 B S0 pc a b c z t ls st M top o = some (r0, o9, lg)) (hl : ∀ e ∈ lg, x_ho ρ e) : x_s33 False x_brP x_bsP x_arP K2 B S0 pc a b c z t (ls.map (x_dv ρ)) (st.map (x_dv ρ)) (x_dM ρ M) top := by
  unfold x_s33 at h
  obtain ⟨n, r, e, qn⟩ := x_eN_b (fun e => by rw [e] at h; cases h)
  subst e
  rw [x_eN_e qn] at h
  obtain ⟨hc, h⟩ := x_br_b h
  rw [x_puk_eq] at h
  rw [x_fn_eq] at h
  have q := hK _ _ _ _ _ _ _ _ (Nat.le_succ _) h hl
  unfold x_s33
  rw [List.map_cons, x_dvN qn, x_eN_e qn]
  refine x_brP_i hc ?_
  rw [x_puk_eq]
  rw [x_fn_eq]
  rw [x_new0_dn, List.map_cons, x_dvT (x_an (x_an hc).2).2] at q
  exact q
theorem x_m34 (hB : x_Bl ρ B) (hK : ∀ j p l s m t2 o1 lg1, top ≤ t2 → K1 j p l s m t2 o1 = some (r0, o9, lg1) → (∀ e ∈ lg1, x_ho ρ e) → K2 j p (l.map (x_dv ρ)) (s.map (x_dv ρ)) (x_dM ρ m) t2) (h : x_s34 x_fR x_brR x_bsR x_arR K1 B S0 pc a b c z t ls st M top o = some (r0, o9, lg)) (hl : ∀ e ∈ lg, x_ho ρ e) : x_s34 False x_brP x_bsP x_arP K2 B S0 pc a b c z t (ls.map (x_dv ρ)) (st.map (x_dv ρ)) (x_dM ρ M) top := by
  unfold x_s34 at h
  obtain ⟨n, r, e, qn⟩ := x_eA_b (fun e => by rw [e] at h; cases h)
  subst e
  rw [x_eA_e qn] at h
  obtain ⟨hc, h⟩ := x_br_b h
  have q := hK _ _ _ _ _ _ _ _ (Nat.le_refl _) h hl
  unfold x_s34
  rw [List.map_cons, x_dvA qn, x_eA_e qn]
  refine x_brP_i (by rw [List.isEmpty_map]; exact hc) ?_
  exact q
theorem x_m35 (hB : x_Bl ρ B) (hK : ∀ j p l s m t2 o1 lg1, top ≤ t2 → K1 j p l s m t2 o1 = some (r0, o9, lg1) → (∀ e ∈ lg1, x_ho ρ e) → K2 j p (l.map (x_dv ρ)) (s.map (x_dv ρ)) (x_dM ρ m) t2) (h : x_s35 x_fR x_brR x_bsR x_arR K1 B S0 pc a b c z t ls st M top o = some (r0, o9, lg)) (hl : ∀ e ∈ lg, x_ho ρ e) : x_s35 False x_brP x_bsP x_arP K2 B S0 pc a b c z t (ls.map (x_dv ρ)) (st.map (x_dv ρ)) (x_dM ρ M) top := by
  unfold x_s35 at h
  obtain ⟨hc, h⟩ := x_br_b h
  have q := hK _ _ _ _ _ _ _ _ (Nat.le_refl _) h hl
  unfold x_s35
  refine x_brP_i hc ?_
  rw [List.map_cons, x_dvA hc] at q
  exact q
theorem x_m36 (hB : x_Bl ρ B) (hK : ∀ j p l s m t2 o1 lg1, top ≤ t2 → K1 j p l s m t2 o1 = some (r0, o9, lg1) → (∀ e ∈ lg1, x_ho ρ e) → K2 j p (l.map (x_dv ρ)) (s.map (x_dv ρ)) (x_dM ρ m) t2) (h : x_s36 x_fR x_brR x_bsR x_arR K1 B S0 pc a b c z t ls st M top o = some (r0, o9, lg)) (hl : ∀ e ∈ lg, x_ho ρ e) : x_s36 False x_brP x_bsP x_arP K2 B S0 pc a b c z t (ls.map (x_dv ρ)) (st.map (x_dv ρ)) (x_dM ρ M) top := by
  unfold x_s36 at h
  obtain ⟨n, r, e, qn⟩ := x_eA_b (fun e => by rw [e] at h; cases h)
  subst e
  rw [x_eA_e qn] at h
  rw [x_eO_e] at h
  rw [x_eO_e] at h
  obtain ⟨hc, h⟩ := x_br_b h
  have q := hK _ _ _ _ _ _ _ _ (Nat.le_refl _) h hl
  unfold x_s36
  rw [List.map_cons, x_dvA qn, x_eA_e qn]
  rw [x_rd_dn hB, x_eO_e]
  rw [x_rd_dn hB, x_eO_e]
  refine x_brP_i (by rw [e_cat_dn]; exact hc) ?_
  rw [List.map_cons, x_dvN (x_blt_ln (x_an (x_an (x_an (x_an (x_an hc).2).2).2).2).1)] at q
  exact q
theorem x_m37 (hB : x_Bl ρ B) (hK : ∀ j p l s m t2 o1 lg1, top ≤ t2 → K1 j p l s m t2 o1 = some (r0, o9, lg1) → (∀ e ∈ lg1, x_ho ρ e) → K2 j p (l.map (x_dv ρ)) (s.map (x_dv ρ)) (x_dM ρ m) t2) (h : x_s37 x_fR x_brR x_bsR x_arR K1 B S0 pc a b c z t ls st M top o = some (r0, o9, lg)) (hl : ∀ e ∈ lg, x_ho ρ e) : x_s37 False x_brP x_bsP x_arP K2 B S0 pc a b c z t (ls.map (x_dv ρ)) (st.map (x_dv ρ)) (x_dM ρ M) top := by
  unfold x_s37 at h
  obtain ⟨i, r, e, qi⟩ := x_eN_b (fun e => by rw [e] at h; cases h)
  subst e
  rw [x_eN_e qi] at h
  obtain ⟨n, r2, e, qn⟩ := x_eA_b (fun e => by rw [e] at h; cases h)
  subst e
  rw [x_eA_e qn] at h
  rw [x_eO_e] at h
  rw [x_eO_e] at h
  obtain ⟨hc, h⟩ := x_br_b h
  rw [x_fi_eq] at h
  have q := hK _ _ _ _ _ _ _ _ (Nat.le_refl _) h hl
  unfold x_s37
  rw [List.map_cons, x_dvN qi, x_eN_e qi]
  rw [List.map_cons, x_dvA qn, x_eA_e qn]
  rw [x_rd_dn hB, x_eO_e]
  rw [x_rd_dn hB, x_eO_e]
  dsimp only
  have k9 := x_b37 hc
  rw [x_get_dn k9.1]
  refine x_brP_i (by rw [e_cat_dn, x_as_dn k9.2]; exact hc) ?_
  rw [x_fi_eq]
  rw [List.map_cons] at q
  exact q
theorem x_m38 (hB : x_Bl ρ B) (hK : ∀ j p l s m t2 o1 lg1, top ≤ t2 → K1 j p l s m t2 o1 = some (r0, o9, lg1) → (∀ e ∈ lg1, x_ho ρ e) → K2 j p (l.map (x_dv ρ)) (s.map (x_dv ρ)) (x_dM ρ m) t2) (h : x_s38 x_fR x_brR x_bsR x_arR K1 B S0 pc a b c z t ls st M top o = some (r0, o9, lg)) (hl : ∀ e ∈ lg, x_ho ρ e) : x_s38 False x_brP x_bsP x_arP K2 B S0 pc a b c z t (ls.map (x_dv ρ)) (st.map (x_dv ρ)) (x_dM ρ M) top := by
  unfold x_s38 at h
  rw [x_eO_e] at h
  obtain ⟨hc, h⟩ := x_br_b h
  have q := hK _ _ _ _ _ _ _ _ (Nat.le_refl _) h hl
  unfold x_s38
  rw [x_rd_dn hB, x_eO_e]
  refine x_brP_i hc ?_
  rw [List.map_cons, x_dvA (x_is_ln (x_an hc).1)] at q
  exact q
theorem x_m39 (hB : x_Bl ρ B) (hK : ∀ j p l s m t2 o1 lg1, top ≤ t2 → K1 j p l s m t2 o1 = some (r0, o9, lg1) → (∀ e ∈ lg1, x_ho ρ e) → K2 j p (l.map (x_dv ρ)) (s.map (x_dv ρ)) (x_dM ρ m) t2) (h : x_s39 x_fR x_brR x_bsR x_arR K1 B S0 pc a b c z t ls st M top o = some (r0, o9, lg)) (hl : ∀ e ∈ lg, x_ho ρ e) : x_s39 False x_brP x_bsP x_arP K2 B S0 pc a b c z t (ls.map (x_dv ρ)) (st.map (x_dv ρ)) (x_dM ρ M) top := by
  unfold x_s39 at h
  obtain ⟨y, r, e, hy⟩ := x_eT_b (fun e => by rw [e] at h; cases h)
  subst e
  rw [x_eT_e hy] at h
  obtain ⟨x, r2, e, hx⟩ := x_eT_b (fun e => by rw [e] at h; cases h)
  subst e
  rw [x_eT_e hx] at h
  obtain ⟨hc, h⟩ := x_br_b h
  obtain ⟨w, o1, lg1, h, hl, ew⟩ := x_ar_b h hl (by decide)
  have q := hK _ _ _ _ _ _ _ _ (Nat.le_refl _) h hl
  unfold x_s39
  rw [List.map_cons, x_dv_val, x_eT_e (x_tx_dn hy)]
  rw [List.map_cons, x_dv_val, x_eT_e (x_tx_dn hx)]
  refine x_brP_i (by rw [e_cat_dn]; exact hc) ?_
  unfold x_arP
  rw [ew]
  rw [List.map_cons, x_dv_val] at q
  exact q
theorem x_sim (hB : x_Bl ρ B) (hK : ∀ j p l s m t2 o1 lg1, top ≤ t2 → K1 j p l s m t2 o1 = some (r0, o9, lg1) → (∀ e ∈ lg1, x_ho ρ e) → K2 j p (l.map (x_dv ρ)) (s.map (x_dv ρ)) (x_dM ρ m) t2) (hl : ∀ e ∈ lg, x_ho ρ e) : ∀ (op : Nat), x_st op x_fR x_brR x_bsR x_arR K1 B S0 pc a b c z t ls st M top o = some (r0, o9, lg) → x_st op False x_brP x_bsP x_arP K2 B S0 pc a b c z t (ls.map (x_dv ρ)) (st.map (x_dv ρ)) (x_dM ρ M) top
  | 0, h => x_m0 (B := B) (S0 := S0) (pc := pc) (a := a) (b := b) (c := c) (z := z) (t := t) (ls := ls) (st := st) (M := M) (top := top) hB hK h hl
  | 1, h => x_m1 (B := B) (S0 := S0) (pc := pc) (a := a) (b := b) (c := c) (z := z) (t := t) (ls := ls) (st := st) (M := M) (top := top) hB hK h hl
  | 2, h => x_m2 (B := B) (S0 := S0) (pc := pc) (a := a) (b := b) (c := c) (z := z) (t := t) (ls := ls) (st := st) (M := M) (top := top) hB hK h hl
  | 3, h => x_m3 (B := B) (S0 := S0) (pc := pc) (a := a) (b := b) (c := c) (z := z) (t := t) (ls := ls) (st := st) (M := M) (top := top) hB hK h hl
  | 4, h => x_m4 (B := B) (S0 := S0) (pc := pc) (a := a) (b := b) (c := c) (z := z) (t := t) (ls := ls) (st := st) (M := M) (top := top) hB hK h hl
  | 5, h => x_m5 (B := B) (S0 := S0) (pc := pc) (a := a) (b := b) (c := c) (z := z) (t := t) (ls := ls) (st := st) (M := M) (top := top) hB hK h hl
  | 6, h => x_m6 (B := B) (S0 := S0) (pc := pc) (a := a) (b := b) (c := c) (z := z) (t := t) (ls := ls) (st := st) (M := M) (top := top) hB hK h hl
  | 7, h => x_m7 (B := B) (S0 := S0) (pc := pc) (a := a) (b := b) (c := c) (z := z) (t := t) (ls := ls) (st := st) (M := M) (top := top) hB hK h hl
  | 8, h => x_m8 (B := B) (S0 := S0) (pc := pc) (a := a) (b := b) (c := c) (z := z) (t := t) (ls := ls) (st := st) (M := M) (top := top) hB hK h hl
  | 9, h => x_m9 (B := B) (S0 := S0) (pc := pc) (a := a) (b := b) (c := c) (z := z) (t := t) (ls := ls) (st := st) (M := M) (top := top) hB hK h hl
  | 10, h => x_m10 (B := B) (S0 := S0) (pc := pc) (a := a) (b := b) (c := c) (z := z) (t := t) (ls := ls) (st := st) (M := M) (top := top) hB hK h hl
  | 11, h => x_m11 (B := B) (S0 := S0) (pc := pc) (a := a) (b := b) (c := c) (z := z) (t := t) (ls := ls) (st := st) (M := M) (top := top) hB hK h hl
  | 12, h => x_m12 (B := B) (S0 := S0) (pc := pc) (a := a) (b := b) (c := c) (z := z) (t := t) (ls := ls) (st := st) (M := M) (top := top) hB hK h hl
  | 13, h => x_m13 (B := B) (S0 := S0) (pc := pc) (a := a) (b := b) (c := c) (z := z) (t := t) (ls := ls) (st := st) (M := M) (top := top) hB hK h hl
  | 14, h => x_m14 (B := B) (S0 := S0) (pc := pc) (a := a) (b := b) (c := c) (z := z) (t := t) (ls := ls) (st := st) (M := M) (top := top) hB hK h hl
  | 15, h => x_m15 (B := B) (S0 := S0) (pc := pc) (a := a) (b := b) (c := c) (z := z) (t := t) (ls := ls) (st := st) (M := M) (top := top) hB hK h hl
  | 16, h => x_m16 (B := B) (S0 := S0) (pc := pc) (a := a) (b := b) (c := c) (z := z) (t := t) (ls := ls) (st := st) (M := M) (top := top) hB hK h hl
  | 17, h => x_m17 (B := B) (S0 := S0) (pc := pc) (a := a) (b := b) (c := c) (z := z) (t := t) (ls := ls) (st := st) (M := M) (top := top) hB hK h hl
  | 18, h => x_m18 (B := B) (S0 := S0) (pc := pc) (a := a) (b := b) (c := c) (z := z) (t := t) (ls := ls) (st := st) (M := M) (top := top) hB hK h hl
  | 19, h => x_m19 (B := B) (S0 := S0) (pc := pc) (a := a) (b := b) (c := c) (z := z) (t := t) (ls := ls) (st := st) (M := M) (top := top) hB hK h hl
  | 20, h => x_m20 (B := B) (S0 := S0) (pc := pc) (a := a) (b := b) (c := c) (z := z) (t := t) (ls := ls) (st := st) (M := M) (top := top) hB hK h hl
  | 21, h => x_m21 (B := B) (S0 := S0) (pc := pc) (a := a) (b := b) (c := c) (z := z) (t := t) (ls := ls) (st := st) (M := M) (top := top) hB hK h hl
  | 22, h => x_m22 (B := B) (S0 := S0) (pc := pc) (a := a) (b := b) (c := c) (z := z) (t := t) (ls := ls) (st := st) (M := M) (top := top) hB hK h hl
  | 23, h => x_m23 (B := B) (S0 := S0) (pc := pc) (a := a) (b := b) (c := c) (z := z) (t := t) (ls := ls) (st := st) (M := M) (top := top) hB hK h hl
  | 24, h => x_m24 (B := B) (S0 := S0) (pc := pc) (a := a) (b := b) (c := c) (z := z) (t := t) (ls := ls) (st := st) (M := M) (top := top) hB hK h hl
  | 25, h => x_m25 (B := B) (S0 := S0) (pc := pc) (a := a) (b := b) (c := c) (z := z) (t := t) (ls := ls) (st := st) (M := M) (top := top) hB hK h hl
  | 26, h => x_m26 (B := B) (S0 := S0) (pc := pc) (a := a) (b := b) (c := c) (z := z) (t := t) (ls := ls) (st := st) (M := M) (top := top) hB hK h hl
  | 27, h => x_m27 (B := B) (S0 := S0) (pc := pc) (a := a) (b := b) (c := c) (z := z) (t := t) (ls := ls) (st := st) (M := M) (top := top) hB hK h hl
  | 28, h => x_m28 (B := B) (S0 := S0) (pc := pc) (a := a) (b := b) (c := c) (z := z) (t := t) (ls := ls) (st := st) (M := M) (top := top) hB hK h hl
  | 29, h => x_m29 (B := B) (S0 := S0) (pc := pc) (a := a) (b := b) (c := c) (z := z) (t := t) (ls := ls) (st := st) (M := M) (top := top) hB hK h hl
  | 30, h => x_m30 (B := B) (S0 := S0) (pc := pc) (a := a) (b := b) (c := c) (z := z) (t := t) (ls := ls) (st := st) (M := M) (top := top) hB hK h hl
  | 31, h => x_m31 (B := B) (S0 := S0) (pc := pc) (a := a) (b := b) (c := c) (z := z) (t := t) (ls := ls) (st := st) (M := M) (top := top) hB hK h hl
  | 32, h => x_m32 (B := B) (S0 := S0) (pc := pc) (a := a) (b := b) (c := c) (z := z) (t := t) (ls := ls) (st := st) (M := M) (top := top) hB hK h hl
  | 33, h => x_m33 (B := B) (S0 := S0) (pc := pc) (a := a) (b := b) (c := c) (z := z) (t := t) (ls := ls) (st := st) (M := M) (top := top) hB hK h hl
  | 34, h => x_m34 (B := B) (S0 := S0) (pc := pc) (a := a) (b := b) (c := c) (z := z) (t := t) (ls := ls) (st := st) (M := M) (top := top) hB hK h hl
  | 35, h => x_m35 (B := B) (S0 := S0) (pc := pc) (a := a) (b := b) (c := c) (z := z) (t := t) (ls := ls) (st := st) (M := M) (top := top) hB hK h hl
  | 36, h => x_m36 (B := B) (S0 := S0) (pc := pc) (a := a) (b := b) (c := c) (z := z) (t := t) (ls := ls) (st := st) (M := M) (top := top) hB hK h hl
  | 37, h => x_m37 (B := B) (S0 := S0) (pc := pc) (a := a) (b := b) (c := c) (z := z) (t := t) (ls := ls) (st := st) (M := M) (top := top) hB hK h hl
  | 38, h => x_m38 (B := B) (S0 := S0) (pc := pc) (a := a) (b := b) (c := c) (z := z) (t := t) (ls := ls) (st := st) (M := M) (top := top) hB hK h hl
  | 39, h => x_m39 (B := B) (S0 := S0) (pc := pc) (a := a) (b := b) (c := c) (z := z) (t := t) (ls := ls) (st := st) (M := M) (top := top) hB hK h hl
  | n + 40, h => by cases h
end SIM
end
