/-! PARTS given out, one by one -/
theorem o_add_mem {l : s_Own} {i : Nat} {t b p : Int} {q : Int × Int × Int} (hi : ∀ x, l[i]? = some x → x.1 = p) (h : q ∈ o_add l i t b) (hp : q.1 ≠ p) : q ∈ l := by
  unfold o_add at h
  cases e : l[i]? with
  | none => rw [e] at h; exact h
  | some x =>
    rw [e] at h
    dsimp only at h
    rcases List.mem_or_eq_of_mem_set h with h | h
    · exact h
    · rw [h] at hp
      exact absurd (hi x e) hp
theorem o_give_mem {l : s_Own} {t b p : Int} {q : Int × Int × Int} (h : q ∈ o_give l p t b) (hp : q.1 ≠ p) : q ∈ l := by
  unfold o_give at h
  split at h
  · rename_i c
    refine o_add_mem (p := p) (fun x hx => ?_) h hp
    rcases r_find_cases (l.map (fun q => q.1)) p with ⟨-, e2⟩ | ⟨i, hi, e2, -, e3⟩
    · have : o_fd l p = -1 := e2
      omega
    · have e4 : o_fd l p = (i : Int) := e3
      rw [e4, show ((i : Nat) : Int).toNat = i by omega] at hx
      rw [List.getElem?_map, hx] at e2
      exact Option.some.inj e2
  · split at h
    · exact h
    · have h2 : q ∈ l ++ [(p, 0, 1)] := o_add_mem (p := p) (fun x hx => by
        rw [List.getElem?_append_right (Nat.le_refl _), Nat.sub_self] at hx
        have := Option.some.inj hx
        rw [← this]) h hp
      rcases List.mem_append.mp h2 with h3 | h3
      · exact h3
      · rw [List.mem_singleton.mp h3] at hp
        exact absurd rfl hp
/-- the share t / b parted among r k, r (k + 1) .. -/
def o_pts (r : Nat → Int) (t b : Int) : Nat → List (Int × Int) → s_Own → s_Own
  | _, [], o => o
  | k, p :: ps, o => o_pts r t b (k + 1) ps (o_give o (r k) (t * p.1) (b * p.2))
theorem o_pts_snoc {r : Nat → Int} {t b : Int} {p : Int × Int} : ∀ {ps : List (Int × Int)} {k : Nat} {o : s_Own}, o_pts r t b k (ps ++ [p]) o = o_give (o_pts r t b k ps o) (r (k + ps.length)) (t * p.1) (b * p.2)
  | [], k, o => rfl
  | x :: ps, k, o => by
    show o_pts r t b (k + 1) (ps ++ [p]) _ = _
    rw [o_pts_snoc, List.length_cons, show k + 1 + ps.length = k + (ps.length + 1) by omega]
    rfl
theorem o_pts_mem {r : Nat → Int} {t b : Int} {q : Int × Int × Int} : ∀ {ps : List (Int × Int)} {k : Nat} {o : s_Own}, q ∈ o_pts r t b k ps o → (∀ j, k ≤ j → j < k + ps.length → q.1 ≠ r j) → q ∈ o
  | [], _, _, h, _ => h
  | x :: ps, k, o, h, hp => by
    have h1 := o_pts_mem (k := k + 1) (ps := ps) h (fun j j1 j2 => hp j (by omega) (by rw [List.length_cons]; omega))
    exact o_give_mem h1 (hp k (Nat.le_refl k) (by rw [List.length_cons]; omega))
