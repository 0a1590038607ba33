/-! what is left of the leaves: Row, Lot, Figure, Thing, Deed -/
theorem s_iter {σ : Type} {P : Nat → σ → Prop} (m : σ → Nat) (I : σ → Prop) (step : ∀ d s, I s → (∀ s', I s' → m s' < m s → P d s') → P (d + 1) s) : ∀ (d : Nat) (s : σ), I s → m s < d → P d s := by
  intro d
  induction d with
  | zero => exact fun s _ h => by omega
  | succ d ih => exact fun s hs h => step d s hs (fun s' h1 h2 => ih s' h1 (by omega))
/-- a loop that counts up to n -/
theorem s_up {σ : Type} {P : Nat → Int → σ → Prop} {n : Int} (I : Int → σ → Prop) {i0 : Int} {s : σ} (hn : i0 ≤ n) (h0 : I i0 s) (last : ∀ d s, I n s → P (d + 1) n s) (step : ∀ d i s, i0 ≤ i → i < n → I i s → (∀ s', I (i + 1) s' → P d (i + 1) s') → P (d + 1) i s) : ∃ j, P j i0 s := by
  refine ⟨_, s_iter (σ := Int × σ) (P := fun d s => P d s.1 s.2) (fun s => (n - s.1).toNat) (fun s => i0 ≤ s.1 ∧ s.1 ≤ n ∧ I s.1 s.2) ?_ _ (i0, s) ⟨by show i0 ≤ i0; omega, hn, h0⟩ (Nat.lt_succ_self _)⟩
  intro d s ⟨h1, h2, h3⟩ hd
  by_cases e : s.1 = n
  · have := last d s.2 (e ▸ h3)
    rw [← e] at this
    exact this
  · exact step d s.1 s.2 h1 (by omega) h3 (fun s' hs' => hd (s.1 + 1, s') ⟨by show i0 ≤ s.1 + 1; omega, by show s.1 + 1 ≤ n; omega, hs'⟩ (by show (n - (s.1 + 1)).toNat < (n - s.1).toNat; omega))
theorem c_rclear {M : e_M} {a : Nat} {Q : e_M → Prop} (hq : ∀ M', s_row M' a = [] → s_rok M' a → M' a 0 = M a 0 → (∀ b, b ≠ a → M' b = M b) → Q M') : WX8_clear a M Q := by
  intro M1 e1
  refine hq M1 ?_ ?_ (by rw [e1, e_up_ne (by omega)]) (fun b hb => by rw [e1, e_up_row hb])
  · unfold s_row; rw [e1, e_up_eq]; rfl
  · unfold s_rok; rw [e1, e_up_eq]; omega
theorem c_rcopy {M : e_M} {a b : Nat} {Q : e_M → Prop} (hab : b ≠ a ∧ b ≠ a + 1 ∧ b + 1 ≠ a) (h : s_rok M b) (hq : ∀ M', s_row M' a = s_row M b → s_rok M' a → M' a 0 = M a 0 → (∀ b, b ≠ a → b ≠ a + 1 → M' b = M b) → Q M') : WX8_copy a b M Q := by
  intro M1 e1
  obtain ⟨h0, h8⟩ := id h
  have hl := s_row_len h
  refine s_up (P := fun d i N => WX8_copy_7 Q d a b i N) (n := M b 1) (fun i N => s_row N a = (s_row M b).take i.toNat ∧ s_rok N a ∧ N a 0 = M a 0 ∧ ∀ c, c ≠ a → c ≠ a + 1 → N c = M c) h0 ⟨?_, ?_, ?_, ?_⟩ ?_ ?_
  · unfold s_row; rw [e1, e_up_eq]; rfl
  · unfold s_rok; rw [e1, e_up_eq]; omega
  · rw [e1, e_up_ne (by omega)]
  · exact fun c hc _ => by rw [e1, e_up_row hc]
  · intro d N ⟨i1, i2, i3, i4⟩
    have eb : N b = M b := i4 b hab.1 hab.2.1
    refine ⟨fun _ => hq N ?_ i2 i3 i4, fun z => by rw [eb] at z; omega⟩
    rw [i1, List.take_of_length_le (by omega)]
  · intro d i N g1 g2 ⟨i1, i2, i3, i4⟩ ih
    have eb : N b = M b := i4 b hab.1 hab.2.1
    have eb1 : N (b + 1) = M (b + 1) := i4 (b + 1) (by omega) (by omega)
    refine ⟨fun z => by rw [eb] at z; omega, fun _ => ⟨⟨g1, by omega⟩, c_radd i2 (fun N' q1 q2 q3 q4 => ?_)⟩⟩
    rw [s_w (by omega) (by omega)]
    refine ih N' ⟨?_, q2, by rw [q3, i3], fun c c1 c2 => by rw [q4 c c1 c2, i4 c c1 c2]⟩
    unfold r_add at q1
    have ht : ((s_row M b).take i.toNat).length = i.toNat := by rw [List.length_take]; omega
    rw [q1, i1, r_ins_end (by omega), eb1, show (i + 1).toNat = i.toNat + 1 by omega, List.take_add_one, s_row_at (by omega)]
    rfl
theorem c_isSame {M : e_M} {a b : Nat} {Q : Int → Prop} (ha : s_rok M a) (hb : s_rok M b) (h1 : s_row M a = s_row M b → Q 1) (h0 : s_row M a ≠ s_row M b → Q 0) : WX8_isSame a b M Q := by
  have la := s_row_len ha
  have lb := s_row_len hb
  obtain ⟨g0, g8⟩ := id ha
  refine ⟨fun e => ?_, fun ne => h0 (fun e => ne (by rw [← la, ← lb, e]))⟩
  refine s_up (P := fun d i (_ : Unit) => WX8_isSame_15 M Q d a b i) (n := M a 1) (s := ()) (fun i _ => ∀ j : Nat, (j : Int) < i → M (a + 1) j = M (b + 1) j) g0 (fun j hj => by omega) ?_ ?_
  · intro d _ hi
    refine ⟨fun _ => h1 ?_, fun z => by omega⟩
    unfold s_row
    rw [← e]
    exact s_ar_congr (fun j hj => hi j (by omega))
  · intro d i _ g1 g2 hi ih
    refine ⟨fun z => by omega, fun _ => ⟨⟨g1, by omega⟩, ⟨g1, by omega⟩, fun e2 => ?_, fun ne => h0 (fun z => ne ?_)⟩⟩
    · rw [s_w (by omega) (by omega)]
      refine ih () (fun j hj => ?_)
      by_cases c : j = i.toNat
      · rw [c]; exact e2
      · exact hi j (by omega)
    · have z1 := s_row_at (M := M) (a := a) (i := i.toNat) (by omega)
      rw [z, s_row_at (by omega)] at z1
      exact (Option.some.inj z1).symm
/-- Row.part and Row.merge -/
def r_part (l : List Int) (old first second : Int) : List Int :=
  if r_find l old < 0 then l else
    let l2 := if second < 0 then r_del l old else r_ins (r_del l old) (r_find l old) second
    if first < 0 then l2 else r_ins l2 (r_find l old) first
theorem c_rpart {M : e_M} {a : Nat} {old first second : Int} {Q : e_M → Prop} (h : s_rok M a) (hq : ∀ M', s_row M' a = r_part (s_row M a) old first second → s_rok M' a → M' a 0 = M a 0 → (∀ b, b ≠ a → b ≠ a + 1 → M' b = M b) → Q M') : WX8_part a old first second M Q := by
  refine c_find h ⟨fun e => c_remove h (fun M2 q1 q2 q3 q4 => ?_), fun e => hq M (by unfold r_part; rw [if_pos e]) h rfl (fun _ _ _ => rfl)⟩
  have fin : ∀ N, s_row N a = (if second < 0 then r_del (s_row M a) old else r_ins (r_del (s_row M a) old) (r_find (s_row M a) old) second) → s_rok N a → N a 0 = M a 0 → (∀ b, b ≠ a → b ≠ a + 1 → N b = M b) → WX8_part_29 Q a first (r_find (s_row M a) old) N := by
    intro N n1 n2 n3 n4
    refine ⟨fun e1 => hq N ?_ n2 n3 n4, fun e1 => c_insert n2 (fun N' p1 p2 p3 p4 => hq N' ?_ p2 (by rw [p3, n3]) (fun b b1 b2 => by rw [p4 b b1 b2, n4 b b1 b2]))⟩
    · unfold r_part; rw [if_neg (by omega), n1, if_pos e1]
    · unfold r_part; rw [if_neg (by omega), p1, n1]; dsimp only; rw [if_neg (show ¬ first < 0 by omega)]
  refine ⟨fun e2 => fin M2 (by rw [if_pos e2]; exact q1) q2 q3 q4, fun e2 => c_insert q2 (fun N' p1 p2 p3 p4 => fin N' (by rw [if_neg (by omega), p1, q1]) p2 (by rw [p3, q3]) (fun b b1 b2 => by rw [p4 b b1 b2, q4 b b1 b2]))⟩
def r_mrg (l : List Int) (one other into : Int) : List Int := match l.findIdx? (fun y => y == one || y == other) with
  | some i => r_del (r_del (l.set i into) one) other
  | none => l
theorem c_rmerge {M : e_M} {a : Nat} {one other into : Int} {Q : e_M → Prop} (h : s_rok M a) (hq : ∀ M', s_row M' a = r_mrg (s_row M a) one other into → s_rok M' a → M' a 0 = M a 0 → (∀ b, b ≠ a → b ≠ a + 1 → M' b = M b) → Q M') : WX8_merge a one other into M Q := by
  have hl := s_row_len h
  obtain ⟨g0, g8⟩ := id h
  have found : ∀ (i : Int), 0 ≤ i → i < M a 1 → (M (a + 1) i.toNat = one ∨ M (a + 1) i.toNat = other) → (∀ j : Nat, (j : Int) < i → M (a + 1) j ≠ one ∧ M (a + 1) j ≠ other) → WX8_merge_34 Q a one other into i M := by
    intro i i1 i2 i3 i4
    refine ⟨⟨i1, by omega⟩, fun M1 e1 => ?_⟩
    have r1 : s_row M1 a = (s_row M a).set i.toNat into := by
      unfold s_row
      rw [show M1 a 1 = M a 1 by rw [e1, e_up_row (by omega)], e1]
      refine s_ar_ext (by rw [List.length_set, s_ar_len]) (fun j hj => ?_)
      rw [List.getElem?_set, s_ar_len, e_up_at]
      by_cases e : i.toNat = j
      · rw [if_pos e, if_pos (by omega), if_pos e.symm]
      · rw [if_neg e, if_neg (fun z => e z.symm), s_ar_get hj]
    have k1 : s_rok M1 a := by unfold s_rok; rw [e1, e_up_row (by omega)]; exact h
    refine c_remove k1 (fun M2 q1 q2 q3 q4 => c_remove q2 (fun M3 p1 p2 p3 p4 => hq M3 ?_ p2 (by rw [p3, q3, e1, e_up_row (by omega)]) (fun b b1 b2 => by rw [p4 b b1 b2, q4 b b1 b2, e1, e_up_row b2])))
    have ef : (s_row M a).findIdx? (fun y => y == one || y == other) = some i.toNat := by
      rw [List.findIdx?_eq_some_iff_getElem]
      have eg : ∀ (j : Nat) (hj : j < (s_row M a).length), (s_row M a)[j] = M (a + 1) j := fun j hj => by
        have := s_row_at (M := M) (a := a) (i := j) (by omega)
        rw [List.getElem?_eq_getElem hj] at this
        exact Option.some.inj this
      refine ⟨by omega, ?_, fun j hj => ?_⟩
      · rw [eg]; simp [i3]
      · rw [eg]; have := i4 j (by omega); simp [this]
    unfold r_mrg
    rw [p1, q1, r1, ef]
  refine s_up (P := fun d i (_ : Unit) => WX8_merge_3 Q d a one other into i M) (n := M a 1) (s := ()) (fun i _ => ∀ j : Nat, (j : Int) < i → M (a + 1) j ≠ one ∧ M (a + 1) j ≠ other) g0 (fun j hj => by omega) ?_ ?_
  · intro d _ hi
    refine ⟨fun _ => hq M ?_ h rfl (fun _ _ _ => rfl), fun z => by omega⟩
    have ef : (s_row M a).findIdx? (fun y => y == one || y == other) = none := by
      rw [List.findIdx?_eq_none_iff]
      intro y hy
      obtain ⟨j, hj, e⟩ := s_ar_mem.mp hy
      have := hi j (by omega)
      rw [e] at this
      simp [this]
    unfold r_mrg
    rw [ef]
  · intro d i _ g1 g2 hi ih
    refine ⟨fun z => by omega, fun _ => ⟨⟨g1, by omega⟩, fun e => found i g1 g2 (Or.inl e) hi, fun ne => ⟨⟨g1, by omega⟩, fun ne2 => ?_, fun e => found i g1 g2 (Or.inr e) hi⟩⟩⟩
    show WX8_merge_3 Q d a one other into (e_w32 (i + 1)) M
    rw [s_w (by omega) (by omega)]
    refine ih () (fun j hj => ?_)
    by_cases c : j = i.toNat
    · rw [c]; exact ⟨ne, ne2⟩
    · exact hi j (by omega)
/-! Figure -/
theorem c_fclear {M : e_M} {a : Nat} {Q : e_M → Prop} (hq : ∀ M', s_fig M' a = [] → s_fok M' a → (∀ k, k ≠ 2 → M' a k = M a k) → (∀ b, b ≠ a → M' b = M b) → Q M') : WX3_clear a M Q := by
  intro M1 e1
  refine hq M1 ?_ ?_ (fun k hk => by rw [e1, e_up_ne (fun z => hk z.2)]) (fun b hb => by rw [e1, e_up_row hb])
  · unfold s_fig; rw [e1, e_up_eq]; rfl
  · unfold s_fok; rw [e1, e_up_eq]; omega
theorem c_fadd {M : e_M} {a : Nat} {x y : Int} {Q : e_M → Prop} (h : s_fok M a) (hq : ∀ M', s_fig M' a = (if (s_fig M a).length < 40 then s_fig M a ++ [(x, y)] else s_fig M a) → s_fok M' a → (∀ k, k ≠ 2 → M' a k = M a k) → (∀ b, b ≠ a → b ≠ a + 1 → b ≠ a + 2 → M' b = M b) → Q M') : WX3_add a x y M Q := by
  have hl := s_fig_len h
  obtain ⟨h0, h40⟩ := id h
  refine ⟨fun e => hq M (by rw [if_neg (by omega)]) h (fun _ _ => rfl) (fun _ _ _ _ => rfl), fun e => ⟨⟨h0, e⟩, fun M1 e1 => ?_⟩⟩
  have a1 : M1 a = M a := by rw [e1, e_up_row (by omega)]
  refine ⟨by rw [a1]; exact ⟨h0, e⟩, fun M2 e2 M3 e3 => ?_⟩
  have a2 : M2 a = M a := by rw [e2, e_up_row (by omega), a1]
  have a3 : M3 a 2 = M a 2 + 1 := by rw [e3, e_up_eq, a2, s_w (by omega) (by omega)]
  refine hq M3 ?_ ⟨by omega, by omega⟩ (fun k hk => by rw [e3, e_up_ne (fun z => hk z.2), a2]) (fun b b0 b1 b2 => by rw [e3, e_up_row b0, e2, e_up_row b2, e1, e_up_row b1])
  rw [if_pos (by omega)]
  unfold s_fig
  rw [a3, s_ar_succ h0]
  have k1 : ∀ j, M3 (a + 1) j = if j = (M a 2).toNat then x else M (a + 1) j := fun j => by rw [e3, e_up_row (by omega), e2, e_up_row (by omega), e1, e_up_at]
  have k2 : ∀ j, M3 (a + 2) j = if j = (M a 2).toNat then y else M (a + 2) j := fun j => by rw [e3, e_up_row (by omega), e2, e_up_at, a1, e1, e_up_row (by omega)]
  congr 1
  · refine s_ar_congr (fun j hj => ?_)
    rw [k1, k2, if_neg (by omega), if_neg (by omega)]
  · rw [k1, k2, if_pos rfl, if_pos rfl]
theorem c_fcopy {M : e_M} {a b : Nat} {Q : e_M → Prop} (hab : b + 2 < a ∨ a + 2 < b) (h : s_fok M b) (hq : ∀ M', s_fig M' a = s_fig M b → s_fok M' a → (∀ k, k ≠ 2 → M' a k = M a k) → (∀ b, b ≠ a → b ≠ a + 1 → b ≠ a + 2 → M' b = M b) → Q M') : WX3_copy a b M Q := by
  have hl := s_fig_len h
  obtain ⟨h0, h40⟩ := id h
  refine c_fclear (fun M1 f1 f2 f3 f4 => ?_)
  refine s_up (P := fun d i N => WX3_copy_6 Q d a b i N) (n := M b 2) (fun i N => s_fig N a = (s_fig M b).take i.toNat ∧ s_fok N a ∧ (∀ k, k ≠ 2 → N a k = M a k) ∧ ∀ c, c ≠ a → c ≠ a + 1 → c ≠ a + 2 → N c = M c) h0 ⟨by rw [f1]; rfl, f2, f3, fun c c0 _ _ => f4 c c0⟩ ?_ ?_
  · intro d N ⟨i1, i2, i3, i4⟩
    have eb : N b = M b := i4 b (by omega) (by omega) (by omega)
    refine ⟨fun _ => hq N ?_ i2 i3 i4, fun z => by rw [eb] at z; omega⟩
    rw [i1, List.take_of_length_le (by omega)]
  · intro d i N g1 g2 ⟨i1, i2, i3, i4⟩ ih
    have eb : N b = M b := i4 b (by omega) (by omega) (by omega)
    have eb1 : N (b + 1) = M (b + 1) := i4 (b + 1) (by omega) (by omega) (by omega)
    have eb2 : N (b + 2) = M (b + 2) := i4 (b + 2) (by omega) (by omega) (by omega)
    refine ⟨fun z => by rw [eb] at z; omega, fun _ => ⟨⟨g1, by omega⟩, ⟨g1, by omega⟩, c_fadd i2 (fun N' q1 q2 q3 q4 => ?_)⟩⟩
    rw [s_w (by omega) (by omega)]
    refine ih N' ⟨?_, q2, fun k hk => by rw [q3 k hk, i3 k hk], fun c c0 c1 c2 => by rw [q4 c c0 c1 c2, i4 c c0 c1 c2]⟩
    have ht : ((s_fig M b).take i.toNat).length = i.toNat := by rw [List.length_take]; omega
    rw [q1, i1, if_pos (by omega), eb1, eb2, show (i + 1).toNat = i.toNat + 1 by omega, List.take_add_one, s_fig_at (by omega)]
    rfl
def g_sum (f : Nat → Int) : Nat → Int
  | 0 => 0
  | k + 1 => g_sum f k + f k
def g_area (l : s_Fig) : Int := g_sum (fun i => (g_pt l i).1 * (g_pt l (g_nx l.length i)).2 - (g_pt l (g_nx l.length i)).1 * (g_pt l i).2) l.length
theorem c_area {M : e_M} {a : Nat} {Q : Int → Prop} (h : s_fok M a) (hb : s_fb (s_fig M a)) (hq : Q (g_area (s_fig M a))) : WX3_area a M Q := by
  have hl := s_fig_len h
  obtain ⟨h0, h40⟩ := id h
  unfold g_area at hq
  generalize hf : (fun i => (g_pt (s_fig M a) i).1 * (g_pt (s_fig M a) (g_nx (s_fig M a).length i)).2 - (g_pt (s_fig M a) (g_nx (s_fig M a).length i)).1 * (g_pt (s_fig M a) i).2) = f at *
  refine s_up (P := fun d i s => WX3_area_4 M Q d a s i) (n := M a 2) (fun i s => s = g_sum f i.toNat ∧ -(1000000 * i) ≤ s ∧ s ≤ 1000000 * i) h0 ⟨rfl, by omega, by omega⟩ ?_ ?_
  · intro d s ⟨i1, i2, i3⟩
    refine ⟨fun _ => ?_, fun z => by omega⟩
    rw [i1, show (M a 2).toNat = (s_fig M a).length by omega]
    exact hq
  · intro d i s g1 g2 ⟨i1, i2, i3⟩ ih
    refine ⟨fun z => by omega, fun _ => c_next h ⟨g1, g2⟩ ?_⟩
    have hk := g_nx_lt (n := (s_fig M a).length) (i := i.toNat) (by omega)
    have ef : f i.toNat = (g_pt (s_fig M a) i.toNat).1 * (g_pt (s_fig M a) (g_nx (s_fig M a).length i.toNat)).2 - (g_pt (s_fig M a) (g_nx (s_fig M a).length i.toNat)).1 * (g_pt (s_fig M a) i.toNat).2 := by rw [← hf]
    generalize hn : g_nx (s_fig M a).length i.toNat = k at *
    obtain ⟨b1, b2⟩ := s_fb_at (i := i.toNat) hb (by omega)
    obtain ⟨b3, b4⟩ := s_fb_at (i := k) hb (by omega)
    rw [g_pt_fig (i := i.toNat) (by omega), g_pt_fig (i := k) (by omega)] at ef
    dsimp only at ef
    have r1 : 0 ≤ i ∧ i < 40 := ⟨g1, by omega⟩
    have r2 : 0 ≤ (k : Int) ∧ (k : Int) < 40 := ⟨by omega, by omega⟩
    have m1 := s_mulB b1.1 b1.2 b4.1 b4.2
    have m2 := s_mulB b3.1 b3.2 b2.1 b2.2
    refine ⟨r1, r2, r2, r1, fun y2 e2 => ?_⟩
    rw [show ((k : Int)).toNat = k by omega, s_w (x := M (a + 1) i.toNat * M (a + 2) k) (by omega) (by omega), s_w (x := M (a + 1) k * M (a + 2) i.toNat) (by omega) (by omega), s_w (x := M (a + 1) i.toNat * M (a + 2) k - M (a + 1) k * M (a + 2) i.toNat) (by omega) (by omega), s_w (by omega) (by omega)] at e2
    rw [s_w (by omega) (by omega)]
    refine ih y2 ⟨?_, by omega, by omega⟩
    rw [show (i + 1).toNat = i.toNat + 1 by omega]
    show y2 = g_sum f i.toNat + f i.toNat
    omega
