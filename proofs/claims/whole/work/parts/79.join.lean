/-! the class's Plane: joining -/
def g_eg (E : List g_E) (i : Nat) : g_E := (E[i]?).getD ((0, 0), (0, 0))
def g_mat (E : List g_E) (i j : Nat) : Bool := decide ((g_eg E i).1 = (g_eg E j).2) && decide ((g_eg E i).2 = (g_eg E j).1)
def g_ct (E : List g_E) (f m : Nat) : Nat → Nat
  | 0 => 0
  | i + 1 => g_ct E f m i + g_cnt (fun t => g_mat E i (f + t)) m
theorem g_ct_le {E : List g_E} {f m : Nat} : ∀ {i : Nat}, g_ct E f m i ≤ i * m
  | 0 => by unfold g_ct; omega
  | i + 1 => by
    have h1 := g_ct_le (E := E) (f := f) (m := m) (i := i)
    have h2 := g_cnt_le (f := fun t => g_mat E i (f + t)) (n := m)
    unfold g_ct
    rw [Nat.succ_mul]
    omega
def g_sh (E : List g_E) (f k : Nat) : Bool := if k < f then g_any (fun t => g_mat E k (f + t)) (E.length - f) else g_any (fun i => g_mat E i k) f
/-- dropped so far: all of the edges ahead of the i-th, those of the i-th up to the j-th -/
def g_shp (E : List g_E) (f i j k : Nat) : Prop := ∃ a b : Nat, a < f ∧ f ≤ b ∧ b < E.length ∧ (a < i ∨ (a = i ∧ b < j)) ∧ g_mat E a b = true ∧ (k = a ∨ k = b)
theorem g_shp_sh {E : List g_E} {f j k : Nat} (hk : k < E.length) : g_shp E f f j k ↔ g_sh E f k = true := by
  unfold g_sh
  constructor
  · rintro ⟨a, b, h1, h2, h3, -, h4, h5 | h5⟩
    · rw [if_pos (by omega)]
      exact g_any_iff.mpr ⟨b - f, by omega, by rw [h5, show f + (b - f) = b by omega]; exact h4⟩
    · rw [if_neg (by omega)]
      exact g_any_iff.mpr ⟨a, h1, by rw [h5]; exact h4⟩
  · intro h
    split at h
    · obtain ⟨t, t1, t2⟩ := g_any_iff.mp h
      exact ⟨k, f + t, by assumption, by omega, by omega, Or.inl (by assumption), t2, Or.inl rfl⟩
    · obtain ⟨a, a1, a2⟩ := g_any_iff.mp h
      exact ⟨a, k, a1, by omega, hk, Or.inl a1, a2, Or.inr rfl⟩
theorem p_eg {M : e_M} {i : Nat} (h : (i : Int) < M 4426 11) : g_eg (p_edg M) i = ((M 4438 i, M 4439 i), (M 4440 i, M 4441 i)) := by unfold g_eg; rw [p_edg_at h]; rfl
def p_flg (L : e_M) (E : List g_E) (f i j : Nat) : Prop := ∀ k, k < E.length → (L 4442 k ≠ 0 ↔ g_shp E f i j k)
theorem c_dropShared {M : e_M} {f : Nat} {Q : Int → e_M → Prop} (h : p_eok M) (hz : p_ez M) (hf : (f : Int) ≤ M 4426 11) (hq : ∀ M', (∀ k, k < (p_edg M).length → (M' 4442 k = 0 ↔ g_sh (p_edg M) f k = false)) → (∀ b, b ≠ 4442 → M' b = M b) → Q (((p_edg M).length : Int) - 2 * (g_ct (p_edg M) f ((p_edg M).length - f) f : Int)) M') : WX5_dropShared f M Q := by
  have el := p_edg_len h
  obtain ⟨h0, h160⟩ := id h
  generalize hE : p_edg M = E at *
  have hct : ∀ i, i ≤ f → g_ct E f (E.length - f) i ≤ 25600 := fun i hi => by
    have h1 := g_ct_le (E := E) (f := f) (m := E.length - f) (i := i)
    have h2 : i * (E.length - f) ≤ 160 * 160 := Nat.mul_le_mul (by omega) (by omega)
    omega
  unfold WX5_dropShared VX5_dropShared
  refine s_up (σ := Int × e_M) (P := fun dd i s => WX5_dropShared_7 Q dd f s.1 i s.2) (n := f) (i0 := 0) (s := (M 4426 11, M)) (fun i s => s.1 = (E.length : Int) - 2 * (g_ct E f (E.length - f) i.toNat : Int) ∧ p_flg s.2 E f i.toNat f ∧ ∀ b, b ≠ 4442 → s.2 b = M b) (by omega) ⟨by show M 4426 11 = _ - 2 * ((0 : Nat) : Int); omega, fun k hk => ⟨fun ne => absurd (hz k (by omega)) ne, fun ⟨a, b, z1, z2, z3, z4, z5, z6⟩ => by exfalso; have : (0 : Int).toNat = 0 := rfl; omega⟩, fun _ _ => rfl⟩ ?_ ?_
  · intro d2 ⟨x2, L⟩ ⟨l1, l2, l3⟩
    dsimp only at l1 l2 l3 ⊢
    unfold WX5_dropShared_7 VX5_dropShared_7
    refine ⟨fun _ => ?_, fun z => absurd z (Int.lt_irrefl _)⟩
    rw [l1, show ((f : Nat) : Int).toNat = f by omega]
    refine hq L (fun k hk => ?_) l3
    have := l2 k hk
    rw [show ((f : Nat) : Int).toNat = f by omega, g_shp_sh hk] at this
    constructor
    · intro e
      cases c : g_sh E f k with
      | false => rfl
      | true => exact absurd e (this.mpr c)
    · intro c
      exact Decidable.byContradiction (fun ne => by have := this.mp ne; rw [c] at this; cases this)
  · intro d2 i ⟨x2, L⟩ k1 k2 ⟨l1, l2, l3⟩ ih
    dsimp only at l1 l2 l3 ⊢
    unfold WX5_dropShared_7 VX5_dropShared_7
    refine ⟨fun z => absurd k2 (Int.not_lt.mpr z), fun _ => ?_⟩
    have hci := hct i.toNat (by omega)
    have hci1 := hct (i.toNat + 1) (by omega)
    refine s_up (σ := Int × e_M) (P := fun dd j s => WX5_dropShared_15 (WX5_dropShared_7 Q d2) Q dd f s.1 i j s.2) (n := M 4426 11) (i0 := f) (s := (x2, L)) (fun j s => s.1 = (E.length : Int) - 2 * ((g_ct E f (E.length - f) i.toNat + g_cnt (fun t => g_mat E i.toNat (f + t)) (j.toNat - f) : Nat) : Int) ∧ p_flg s.2 E f i.toNat j.toNat ∧ ∀ b, b ≠ 4442 → s.2 b = M b) hf ⟨by show x2 = _; rw [l1, show ((f : Nat) : Int).toNat - f = 0 by omega]; rfl, by rw [show ((f : Nat) : Int).toNat = f by omega]; exact l2, l3⟩ ?_ ?_
    · intro d3 ⟨y2, N⟩ ⟨n1, n2, n3⟩
      dsimp only at n1 n2 n3 ⊢
      unfold WX5_dropShared_15 VX5_dropShared_15
      rw [n3 4426 (by omega)]
      refine ⟨fun _ => ?_, fun z => absurd z (Int.lt_irrefl _)⟩
      rw [s_w (by omega) (by omega)]
      refine ih (y2, N) ⟨?_, fun k hk => ?_, n3⟩
      · show y2 = _
        rw [n1, show (i + 1).toNat = i.toNat + 1 by omega, show (M 4426 11).toNat - f = E.length - f by omega]; rfl
      · rw [n2 k hk, show (i + 1).toNat = i.toNat + 1 by omega]
        constructor
        · rintro ⟨a, b, z1, z2, z3, z4, z5, z6⟩
          exact ⟨a, b, z1, z2, z3, by omega, z5, z6⟩
        · rintro ⟨a, b, z1, z2, z3, z4, z5, z6⟩
          exact ⟨a, b, z1, z2, z3, by omega, z5, z6⟩
    · intro d3 j ⟨y2, N⟩ j1 j2 ⟨n1, n2, n3⟩ ih2
      dsimp only at n1 n2 n3 ⊢
      have ri : 0 ≤ i ∧ i < 160 := by omega
      have rj : 0 ≤ j ∧ j < 160 := by omega
      have eC : g_cnt (fun t => g_mat E i.toNat (f + t)) (j.toNat - f + 1) = g_cnt (fun t => g_mat E i.toNat (f + t)) (j.toNat - f) + (if g_mat E i.toNat j.toNat = true then 1 else 0) := by
        have : f + (j.toNat - f) = j.toNat := by omega
        show _ + (if g_mat E i.toNat (f + (j.toNat - f)) = true then 1 else 0) = _
        rw [this]
      have hcle := g_cnt_le (f := fun t => g_mat E i.toNat (f + t)) (n := j.toNat - f)
      have go : ∀ (y : Int) (G : e_M), y = (E.length : Int) - 2 * ((g_ct E f (E.length - f) i.toNat + g_cnt (fun t => g_mat E i.toNat (f + t)) (j.toNat - f + 1) : Nat) : Int) → (∀ k, k < E.length → (G 4442 k ≠ 0 ↔ (g_shp E f i.toNat j.toNat k ∨ (g_mat E i.toNat j.toNat = true ∧ (k = i.toNat ∨ k = j.toNat))))) → (∀ b, b ≠ 4442 → G b = M b) → WX5_dropShared_106 (WX5_dropShared_7 Q d2) (WX5_dropShared_15 (WX5_dropShared_7 Q d2) Q d3) Q f y i j G := by
        intro y G g1 g2 g3
        show WX5_dropShared_15 (WX5_dropShared_7 Q d2) Q d3 f y i (e_w32 (j + 1)) G
        rw [s_w (by omega) (by omega)]
        refine ih2 (y, G) ⟨by show y = _; rw [g1, show (j + 1).toNat - f = j.toNat - f + 1 by omega], fun k hk => ?_, g3⟩
        show G 4442 k ≠ 0 ↔ _
        rw [g2 k hk, show (j + 1).toNat = j.toNat + 1 by omega]
        constructor
        · rintro (⟨a, b, z1, z2, z3, z4, z5, z6⟩ | ⟨z5, z6⟩)
          · exact ⟨a, b, z1, z2, z3, by omega, z5, z6⟩
          · exact ⟨i.toNat, j.toNat, by omega, by omega, by omega, Or.inr ⟨rfl, by omega⟩, z5, z6⟩
        · rintro ⟨a, b, z1, z2, z3, z4, z5, z6⟩
          by_cases c : a = i.toNat ∧ b = j.toNat
          · rw [c.1, c.2] at z5 z6
            exact Or.inr ⟨z5, z6⟩
          · exact Or.inl ⟨a, b, z1, z2, z3, by omega, z5, z6⟩
      have no : g_mat E i.toNat j.toNat = false → WX5_dropShared_106 (WX5_dropShared_7 Q d2) (WX5_dropShared_15 (WX5_dropShared_7 Q d2) Q d3) Q f y2 i j N := fun e => go y2 N (by rw [n1, eC, if_neg (by rw [e]; exact Bool.false_ne_true)]; rfl) (fun k hk => by rw [n2 k hk, e]; exact ⟨fun z => Or.inl z, fun z => z.elim id (fun w => by cases w.1)⟩) n3
      have yes : g_mat E i.toNat j.toNat = true → ∀ G, G = e_up (e_up N 4442 i.toNat 1) 4442 j.toNat 1 → WX5_dropShared_106 (WX5_dropShared_7 Q d2) (WX5_dropShared_15 (WX5_dropShared_7 Q d2) Q d3) Q f (e_w32 (y2 + -2)) i j G := by
        intro e G eG
        rw [s_w (by omega) (by omega)]
        refine go _ G (by rw [n1, eC, if_pos e]; omega) (fun k hk => ?_) (fun b hb => by rw [eG, e_up_row hb, e_up_row hb, n3 b hb])
        have hG : G 4442 k = if k = j.toNat then 1 else if k = i.toNat then 1 else N 4442 k := by rw [eG, e_up_at, e_up_at]
        rw [hG, e]
        by_cases c1 : k = j.toNat
        · rw [if_pos c1]; exact ⟨fun _ => Or.inr ⟨rfl, Or.inr c1⟩, fun _ => by omega⟩
        · rw [if_neg c1]
          by_cases c2 : k = i.toNat
          · rw [if_pos c2]; exact ⟨fun _ => Or.inr ⟨rfl, Or.inl c2⟩, fun _ => by omega⟩
          · rw [if_neg c2, n2 k hk]
            exact ⟨fun z => Or.inl z, fun z => z.elim id (fun w => by omega)⟩
      have ei := p_eg (M := M) (i := i.toNat) (by omega)
      have ej := p_eg (M := M) (i := j.toNat) (by omega)
      rw [hE] at ei ej
      unfold g_mat at no yes
      rw [ei, ej] at no yes
      have no' : ¬ ((M 4438 i.toNat, M 4439 i.toNat) = (M 4440 j.toNat, M 4441 j.toNat) ∧ (M 4440 i.toNat, M 4441 i.toNat) = (M 4438 j.toNat, M 4439 j.toNat)) → WX5_dropShared_106 (WX5_dropShared_7 Q d2) (WX5_dropShared_15 (WX5_dropShared_7 Q d2) Q d3) Q f y2 i j N := fun ne => no (by
        cases c : (decide ((M 4438 i.toNat, M 4439 i.toNat) = (M 4440 j.toNat, M 4441 j.toNat)) && decide ((M 4440 i.toNat, M 4441 i.toNat) = (M 4438 j.toNat, M 4439 j.toNat))) with
        | false => rfl
        | true =>
          rw [Bool.and_eq_true, decide_eq_true_iff, decide_eq_true_iff] at c
          exact absurd c ne)
      unfold WX5_dropShared_15 VX5_dropShared_15
      rw [n3 4426 (by omega), n3 4438 (by omega), n3 4439 (by omega), n3 4440 (by omega), n3 4441 (by omega)]
      refine ⟨fun z => by omega, fun _ => ⟨ri, rj, fun ne => no' (fun c => ne (congrArg Prod.fst c.1)), fun f1 => ⟨ri, rj, fun ne => no' (fun c => ne (congrArg Prod.snd c.1)), fun f2 => ⟨ri, rj, fun ne => no' (fun c => ne (congrArg Prod.fst c.2)), fun f3 => ⟨ri, rj, fun ne => no' (fun c => ne (congrArg Prod.snd c.2)), fun f4 => ⟨⟨ri, Or.inr rfl⟩, fun M1 m1 => ⟨⟨rj, Or.inr rfl⟩, fun M2 m2 => ?_⟩⟩⟩⟩⟩⟩⟩
      refine yes ?_ M2 (by rw [m2, m1])
      rw [f1, f2, f3, f4, decide_eq_true rfl, decide_eq_true rfl]; rfl
def g_okE (E : List g_E) (f : Nat) (p : Int × Int) (k : Nat) : Bool := !g_sh E f k && decide ((g_eg E k).1 = p)
def g_1of (l : List Nat) : Int := match l with
  | [i] => (i : Int)
  | _ => -1
def g_only (E : List g_E) (f : Nat) (p : Int × Int) : Int := g_1of ((List.range E.length).filter (g_okE E f p))
theorem g_flt_mono {F : Nat → Bool} {a b : Nat} (h : a ≤ b) : ((List.range a).filter F).length ≤ ((List.range b).filter F).length := by
  induction b with
  | zero => rw [Nat.le_zero.mp h]; exact Nat.le_refl _
  | succ b ih =>
    by_cases e : a = b + 1
    · rw [e]; exact Nat.le_refl _
    · rw [List.range_succ, List.filter_append, List.length_append]
      have := ih (by omega)
      omega
theorem g_1of_two {l : List Nat} (h : 2 ≤ l.length) : g_1of l = -1 := by
  match l, h with
  | _ :: _ :: _, _ => rfl
theorem g_only_lt {E : List g_E} {f : Nat} {p : Int × Int} : -1 ≤ g_only E f p ∧ g_only E f p < E.length := by
  unfold g_only
  cases e : (List.range E.length).filter (g_okE E f p) with
  | nil => show -1 ≤ (-1 : Int) ∧ _; exact ⟨by omega, by show (-1 : Int) < _; omega⟩
  | cons i l =>
    cases l with
    | nil =>
      have : i ∈ (List.range E.length).filter (g_okE E f p) := by rw [e]; exact List.mem_singleton.mpr rfl
      have := List.mem_range.mp (List.mem_filter.mp this).1
      show -1 ≤ (i : Int) ∧ (i : Int) < _
      omega
    | cons j l => show -1 ≤ (-1 : Int) ∧ _; exact ⟨by omega, by show (-1 : Int) < _; omega⟩
theorem c_onlyEdgeFrom {M : e_M} {f : Nat} {px py : Int} {E : List g_E} {Q : Int → Prop} (h : p_eok M) (hE : p_edg M = E) (hs : ∀ k, k < E.length → (M 4442 k = 0 ↔ g_sh E f k = false)) (hq : Q (g_only E f (px, py))) : WX5_onlyEdgeFrom px py M Q := by
  have el := p_edg_len h
  rw [hE] at el
  obtain ⟨h0, h160⟩ := id h
  unfold g_only at hq
  unfold WX5_onlyEdgeFrom VX5_onlyEdgeFrom
  refine s_up (σ := Int) (P := fun dd k x => WX5_onlyEdgeFrom_5 M Q dd px py x k) (n := M 4426 11) (i0 := 0) (s := -1) (fun k x => (x = -1 ∧ (List.range k.toNat).filter (g_okE E f (px, py)) = []) ∨ ∃ i : Nat, x = i ∧ (List.range k.toNat).filter (g_okE E f (px, py)) = [i]) h0 (Or.inl ⟨rfl, rfl⟩) ?_ ?_
  · intro d2 x hx
    unfold WX5_onlyEdgeFrom_5 VX5_onlyEdgeFrom_5
    refine ⟨fun _ => ?_, fun z => by omega⟩
    rw [show (M 4426 11).toNat = E.length by omega] at hx
    rcases hx with ⟨e1, e2⟩ | ⟨i, e1, e2⟩
    · rw [e2] at hq; rw [e1]; exact hq
    · rw [e2] at hq; rw [e1]; exact hq
  · intro d2 k x k1 k2 hx ih
    have eg := p_eg (M := M) (i := k.toNat) (by omega)
    rw [hE] at eg
    have eR : (List.range (k.toNat + 1)).filter (g_okE E f (px, py)) = (List.range k.toNat).filter (g_okE E f (px, py)) ++ (if g_okE E f (px, py) k.toNat = true then [k.toNat] else []) := by
      rw [List.range_succ, List.filter_append]
      congr 1
      cases c : g_okE E f (px, py) k.toNat with
      | true => rw [List.filter_cons_of_pos c]; rfl
      | false => rw [List.filter_cons_of_neg (by rw [c]; exact Bool.false_ne_true)]; rfl
    have hsk := hs k.toNat (by omega)
    have no : g_okE E f (px, py) k.toNat = false → WX5_onlyEdgeFrom_55 M (WX5_onlyEdgeFrom_5 M Q d2) Q px py x k := by
      intro e
      show WX5_onlyEdgeFrom_5 M Q d2 px py x (e_w32 (k + 1))
      rw [s_w (by omega) (by omega)]
      refine ih x ?_
      rw [show (k + 1).toNat = k.toNat + 1 by omega, eR, e, if_neg Bool.false_ne_true, List.append_nil]
      exact hx
    have yes : g_okE E f (px, py) k.toNat = true → ((x < 0 → WX5_onlyEdgeFrom_55 M (WX5_onlyEdgeFrom_5 M Q d2) Q px py k k) ∧ (0 ≤ x → Q (-1))) := by
      intro e
      rw [e, if_pos rfl] at eR
      refine ⟨fun lt => ?_, fun ge => ?_⟩
      · show WX5_onlyEdgeFrom_5 M Q d2 px py k (e_w32 (k + 1))
        rw [s_w (by omega) (by omega)]
        refine ih k (Or.inr ⟨k.toNat, by omega, ?_⟩)
        rw [show (k + 1).toNat = k.toNat + 1 by omega, eR]
        rcases hx with ⟨e1, e2⟩ | ⟨i, e1, e2⟩
        · rw [e2]; rfl
        · omega
      · rcases hx with ⟨e1, e2⟩ | ⟨i, e1, e2⟩
        · omega
        · rw [e2] at eR
          have := g_flt_mono (F := g_okE E f (px, py)) (show k.toNat + 1 ≤ E.length by omega)
          rw [eR] at this
          rw [g_1of_two this] at hq
          exact hq
    unfold g_okE at no yes
    rw [eg] at no yes
    have rk : 0 ≤ k ∧ k < 160 := by omega
    unfold WX5_onlyEdgeFrom_5 VX5_onlyEdgeFrom_5
    refine ⟨fun z => by omega, fun _ => ⟨rk, fun ne => no ?_, fun e0 => ?_⟩⟩
    · have : g_sh E f k.toNat = true := by
        cases c : g_sh E f k.toNat with
        | true => rfl
        | false => exact absurd (hsk.mpr c) ne
      rw [this]; rfl
    · rw [hsk.mp e0, Bool.not_false, Bool.true_and] at no yes
      refine ⟨rk, fun ne => no (decide_eq_false (fun z => ne (congrArg Prod.fst z))), fun e1 => ⟨rk, fun ne => no (decide_eq_false (fun z => ne (congrArg Prod.snd z))), fun e2 => yes (by rw [e1, e2]; exact decide_eq_true rfl)⟩⟩
def g_wlk (E : List g_E) (f start : Nat) : Nat → Nat → s_Fig → Option s_Fig
  | 0, _, _ => none
  | n + 1, e, acc => if g_only E f (g_eg E e).2 < 0 then none else if g_only E f (g_eg E e).2 = (start : Int) then (if n = 0 then some (acc ++ [(g_eg E e).1]) else none) else g_wlk E f start n (g_only E f (g_eg E e).2).toNat (acc ++ [(g_eg E e).1])
def g_EA (A B : s_Fig) : List g_E := (g_edgs A B A.length).take 160
def g_EAB (A B : s_Fig) : List g_E := (g_EA A B ++ g_edgs B A B.length).take 160
def g_jst (A B : s_Fig) : Int := g_fst (fun i => !g_sh (g_EAB A B) (g_EA A B).length i) (g_EA A B).length
def g_jlf (A B : s_Fig) : Int := ((g_EAB A B).length : Int) - 2 * (g_ct (g_EAB A B) (g_EA A B).length ((g_EAB A B).length - (g_EA A B).length) (g_EA A B).length : Int)
def g_jraw (A B : s_Fig) : Option s_Fig := if g_jlf A B = (g_EAB A B).length ∨ g_jst A B < 0 then none else g_wlk (g_EAB A B) (g_EA A B).length (g_jst A B).toNat (g_jlf A B).toNat (g_jst A B).toNat []
theorem g_eg_mem {E : List g_E} {i : Nat} (h : i < E.length) : g_eg E i ∈ E := by
  unfold g_eg
  rw [List.getElem?_eq_getElem h]
  exact List.getElem_mem h
theorem g_cutE_lp {G : s_Fig} {q : Int × Int} (hG : s_fb G) (hq : s_lp q) : ∀ {n : Nat} {p : Int × Int}, s_lp p → ∀ e ∈ g_cutE G q n p, s_lp e.1 ∧ s_lp e.2
  | 0, p, hp, e, he => by
    rw [List.mem_singleton.mp he]; exact ⟨hp, hq⟩
  | n + 1, p, hp, e, he => by
    unfold g_cutE at he
    split at he
    · rw [List.mem_singleton.mp he]; exact ⟨hp, hq⟩
    · rcases List.mem_cons.mp he with h | h
      · rw [h]; exact ⟨hp, g_pt_b hG _⟩
      · exact g_cutE_lp hG hq (g_pt_b hG _) e h
theorem g_edgs_lp {F G : s_Fig} (hF : s_fb F) (hG : s_fb G) : ∀ {n : Nat}, ∀ e ∈ g_edgs F G n, s_lp e.1 ∧ s_lp e.2
  | 0, e, he => by cases he
  | n + 1, e, he => by
    unfold g_edgs at he
    rcases List.mem_append.mp he with h | h
    · exact g_edgs_lp hF hG e h
    · exact g_cutE_lp hG (g_pt_b hF _) (g_pt_b hF _) e h
theorem g_EAB_lp {A B : s_Fig} (hA : s_fb A) (hB : s_fb B) : ∀ e ∈ g_EAB A B, s_lp e.1 ∧ s_lp e.2 := by
  intro e he
  unfold g_EAB g_EA at he
  rcases List.mem_append.mp (List.mem_of_mem_take he) with h | h
  · exact g_edgs_lp hA hB e (List.mem_of_mem_take h)
  · exact g_edgs_lp hB hA e h
theorem c_join {M : e_M} {a b : Nat} {Q : Int → e_M → Prop} (ha : s_fok M a) (hb : s_fok M b) (fa : s_fb (s_fig M a)) (fb : s_fb (s_fig M b)) (da : a + 2 < 4426 ∨ 4442 < a) (db : b + 2 < 4426 ∨ 4442 < b)
    (q1 : ∀ R, g_jraw (s_fig M a) (s_fig M b) = some R → g_okc R → ∀ M', s_fig M' 4433 = g_cls R → s_fok M' 4433 → (∀ c, c < 4426 ∨ 4442 < c ∨ (4427 ≤ c ∧ c ≤ 4432) → M' c = M c) → Q 1 M')
    (q0 : (∀ R, g_jraw (s_fig M a) (s_fig M b) = some R → ¬ g_okc R) → ∀ M', (∀ c, c < 4426 ∨ 4442 < c ∨ (4427 ≤ c ∧ c ≤ 4432) → M' c = M c) → Q 0 M') : WX5_join a b M Q := by
  unfold WX5_join VX5_join
  intro M1 e1
  have f1 : q_fr M M1 := ⟨fun c c1 _ => by rw [e1, e_up_row c1], fun k hk => by rw [e1, e_up_ne (fun z => hk z.2)]⟩
  have E1 : p_edg M1 = [] := by unfold p_edg; rw [e1, e_up_eq]; rfl
  have k1 : p_eok M1 := by unfold p_eok; rw [e1, e_up_eq]; omega
  have z1 : p_ez M1 := fun k hk => by rw [e1, e_up_eq] at hk; omega
  have same : ∀ L : e_M, q_fr M L → (s_fig L a = s_fig M a ∧ s_fok L a) ∧ s_fig L b = s_fig M b ∧ s_fok L b := by
    intro L f
    have x0 := f.1 a (by omega) (by omega)
    have y0 := f.1 b (by omega) (by omega)
    exact ⟨⟨s_fig_congr (by rw [x0]) (f.1 _ (by omega) (by omega)) (f.1 _ (by omega) (by omega)), by unfold s_fok; rw [x0]; exact ha⟩, s_fig_congr (by rw [y0]) (f.1 _ (by omega) (by omega)) (f.1 _ (by omega) (by omega)), by unfold s_fok; rw [y0]; exact hb⟩
  obtain ⟨⟨A1, A2⟩, B1, B2⟩ := same M1 f1
  refine c_layEdges A2 B2 (by rw [A1]; exact fa) (by rw [B1]; exact fb) da db k1 z1 (fun M2 h1 h2 h3 h4 => ?_)
  have f2 := q_fr_trans f1 h4
  rw [A1, B1, E1, List.nil_append] at h1
  change p_edg M2 = g_EA (s_fig M a) (s_fig M b) at h1
  obtain ⟨⟨A3, A4⟩, B3, B4⟩ := same M2 f2
  refine c_layEdges B4 A4 (by rw [B3]; exact fb) (by rw [A3]; exact fa) db da h2 h3 (fun M3 i1 i2 i3 i4 => ?_)
  have f3 := q_fr_trans f2 i4
  rw [A3, B3, h1] at i1
  change p_edg M3 = g_EAB (s_fig M a) (s_fig M b) at i1
  have l2 := p_edg_len h2
  rw [h1] at l2
  have l3 := p_edg_len i2
  rw [i1] at l3
  have hElp := g_EAB_lp fa fb
  have lAB : (g_EA (s_fig M a) (s_fig M b)).length ≤ (g_EAB (s_fig M a) (s_fig M b)).length := by
    unfold g_EAB
    rw [List.length_take, List.length_append]
    have : (g_EA (s_fig M a) (s_fig M b)).length ≤ 160 := by unfold g_EA; rw [List.length_take]; omega
    omega
  have hjr : g_jraw (s_fig M a) (s_fig M b) = if g_jlf (s_fig M a) (s_fig M b) = (g_EAB (s_fig M a) (s_fig M b)).length ∨ g_jst (s_fig M a) (s_fig M b) < 0 then none else g_wlk (g_EAB (s_fig M a) (s_fig M b)) (g_EA (s_fig M a) (s_fig M b)).length (g_jst (s_fig M a) (s_fig M b)).toNat (g_jlf (s_fig M a) (s_fig M b)).toNat (g_jst (s_fig M a) (s_fig M b)).toNat [] := rfl
  have hst : g_jst (s_fig M a) (s_fig M b) = g_fst (fun i => !g_sh (g_EAB (s_fig M a) (s_fig M b)) (g_EA (s_fig M a) (s_fig M b)).length i) (g_EA (s_fig M a) (s_fig M b)).length := rfl
  have hlf : g_jlf (s_fig M a) (s_fig M b) = ((g_EAB (s_fig M a) (s_fig M b)).length : Int) - 2 * (g_ct (g_EAB (s_fig M a) (s_fig M b)) (g_EA (s_fig M a) (s_fig M b)).length ((g_EAB (s_fig M a) (s_fig M b)).length - (g_EA (s_fig M a) (s_fig M b)).length) (g_EA (s_fig M a) (s_fig M b)).length : Int) := rfl
  generalize hR : g_jraw (s_fig M a) (s_fig M b) = R at *
  generalize hEE : g_EAB (s_fig M a) (s_fig M b) = E at *
  generalize hff : (g_EA (s_fig M a) (s_fig M b)).length = f at *
  have o0 : R = none → ∀ M', (∀ c, c < 4426 ∨ 4442 < c ∨ (4427 ≤ c ∧ c ≤ 4432) → M' c = M c) → Q 0 M' := fun e M' m => q0 (fun R' e' => by rw [e] at e'; cases e') M' m
  rw [← l2]
  refine c_dropShared i2 i3 (by omega) (fun M5 j1 j2 => ?_)
  rw [i1] at j1
  rw [i1, ← hlf]
  have fr5 : ∀ c, c < 4426 ∨ 4442 < c ∨ (4427 ≤ c ∧ c ≤ 4432) → M5 c = M c := fun c hc => by rw [j2 c (by omega), f3.1 c (by omega) (by omega)]
  have E5 : p_edg M5 = E := by
    rw [← i1]; unfold p_edg
    rw [j2 4426 (by omega), j2 4438 (by omega), j2 4439 (by omega), j2 4440 (by omega), j2 4441 (by omega)]
  have n5 : M5 4426 11 = (E.length : Int) := by rw [j2 4426 (by omega), ← l3]
  have hlfle : g_jlf (s_fig M a) (s_fig M b) ≤ E.length := by rw [hlf]; omega
  have i160 := i2.2
  have hctb : (g_ct E f (E.length - f) f : Int) ≤ 25600 := by
    have h1 := g_ct_le (E := E) (f := f) (m := E.length - f) (i := f)
    have h2 : f * (E.length - f) ≤ 160 * 160 := Nat.mul_le_mul (by omega) (by omega)
    omega
  generalize hLF : g_jlf (s_fig M a) (s_fig M b) = left at *
  have k70 : ∀ st, st = g_jst (s_fig M a) (s_fig M b) → WX5_join_70 Q st left M5 := by
    intro st est
    have hstb := g_fst_lt (f := fun i => !g_sh E f i) (n := f)
    rw [← hst, ← est] at hstb
    rw [← est] at hjr
    unfold WX5_join_70 VX5_join_70
    rw [n5]
    refine ⟨fun e => o0 (by rw [hjr, if_pos (Or.inl e)]) M5 fr5, fun ne => ⟨fun ge => fun M6 e6 => ?_, fun lt => o0 (by rw [hjr, if_pos (Or.inr lt)]) M5 fr5⟩⟩
    rw [if_neg (by omega)] at hjr
    have fr6 : ∀ b, b ≠ 4426 → M6 b = M5 b := fun b hb => by rw [e6, e_up_row hb]
    have r6 : p_raw M6 = [] := by unfold p_raw; rw [e6, e_up_eq]; rfl
    have r6k : p_rok M6 := by unfold p_rok; rw [e6, e_up_eq]; omega
    have s6 : M6 4426 11 = (E.length : Int) := by rw [e6, e_up_ne (by omega), n5]
    show ∃ j, WX5_join_98 Q j st left st 0 M6
    by_cases c0 : left ≤ 0
    · refine ⟨1, ?_⟩
      unfold WX5_join_98 VX5_join_98
      refine ⟨fun _ => o0 (by rw [hjr, show left.toNat = 0 by omega]; rfl) M6 (fun c hc => by rw [fr6 c (by omega), fr5 c hc]), fun z => by omega⟩
    refine s_up (σ := Int × e_M) (P := fun dd i s => WX5_join_98 Q dd st left s.1 i s.2) (n := left) (i0 := 0) (s := (st, M6)) (fun i s => (0 ≤ s.1 ∧ s.1 < E.length) ∧ R = g_wlk E f st.toNat (left - i).toNat s.1.toNat (p_raw s.2) ∧ ((p_raw s.2).length : Int) = i ∧ p_rok s.2 ∧ (∀ b, b ≠ 4426 → b ≠ 4436 → b ≠ 4437 → s.2 b = M5 b) ∧ s.2 4426 11 = (E.length : Int) ∧ ∀ x ∈ p_raw s.2, s_lp x) (by omega) ⟨by dsimp only; omega, ?_, by rw [r6]; rfl, r6k, fun b b1 _ _ => fr6 b b1, s6, fun x hx => by rw [r6] at hx; cases hx⟩ ?_ ?_
    · rw [hjr, Int.sub_zero, r6]
    · intro d2 ⟨e, L⟩ ⟨m0, m1, m2, m3, m4, m5, m6⟩
      dsimp only at m0 m1 m2 m3 m4 m5 m6 ⊢
      rw [Int.sub_self] at m1
      unfold WX5_join_98 VX5_join_98
      refine ⟨fun _ => o0 m1 L (fun c hc => by rw [m4 c (by omega) (by omega) (by omega), fr5 c hc]), fun z => by omega⟩
    · intro d2 i ⟨e, L⟩ k1' k2' ⟨m0, m1, m2, m3, m4, m5, m6⟩ ih
      dsimp only at m0 m1 m2 m3 m4 m5 m6 ⊢
      rw [show (left - i).toNat = (left - i).toNat - 1 + 1 by omega] at m1
      unfold g_wlk at m1
      have eE := p_eg (M := M5) (i := e.toNat) (by omega)
      rw [E5] at eE
      have hmem := g_eg_mem (E := E) (i := e.toNat) (by omega)
      have hlp := hElp _ hmem
      rw [eE] at m1 hlp
      dsimp only at m1 hlp
      have re : 0 ≤ e ∧ e < 160 := by omega
      have rl := p_raw_len m3
      have m3' := m3.2
      unfold WX5_join_98 VX5_join_98
      rw [m4 4438 (by omega) (by omega) (by omega), m4 4439 (by omega) (by omega) (by omega)]
      refine ⟨fun z => by omega, fun _ => ⟨re, re, c_lay m3 (fun G g1 g2 g3 => ⟨re, re, ?_⟩)⟩⟩
      rw [if_pos (by omega)] at g1
      have G4 : ∀ b, b ≠ 4426 → b ≠ 4436 → b ≠ 4437 → G b = M5 b := fun b b1 b2 b3 => by rw [g3.1 b b1 b2 b3, m4 b b1 b2 b3]
      have G5 : G 4426 11 = (E.length : Int) := by rw [g3.2 11 (by omega), m5]
      have GE : p_edg G = E := by
        rw [← E5]; unfold p_edg
        rw [G5, n5, G4 4438 (by omega) (by omega) (by omega), G4 4439 (by omega) (by omega) (by omega), G4 4440 (by omega) (by omega) (by omega), G4 4441 (by omega) (by omega) (by omega)]
      have frG : ∀ c, c < 4426 ∨ 4442 < c ∨ (4427 ≤ c ∧ c ≤ 4432) → G c = M c := fun c hc => by rw [G4 c (by omega) (by omega) (by omega), fr5 c hc]
      rw [G4 4440 (by omega) (by omega) (by omega), G4 4441 (by omega) (by omega) (by omega)]
      refine c_onlyEdgeFrom (f := f) (E := E) ⟨by omega, by omega⟩ GE (fun k hk => by rw [G4 4442 (by omega) (by omega) (by omega)]; exact j1 k hk) ?_
      have ob := g_only_lt (E := E) (f := f) (p := (M5 4440 e.toNat, M5 4441 e.toNat))
      generalize g_only E f (M5 4440 e.toNat, M5 4441 e.toNat) = r at *
      refine ⟨fun lt => ?_, fun ge2 => ⟨fun ner => ?_, fun er => ?_⟩⟩
      · rw [if_pos lt] at m1
        unfold WX5_join_155 VX5_join_155
        exact ⟨fun _ => o0 m1 G frG, fun z => by omega⟩
      · rw [if_neg (Int.not_lt.mpr ge2), if_neg (by omega)] at m1
        rw [s_w (by omega) (by omega)]
        refine ih (r, G) ⟨by dsimp only; omega, ?_, ?_, g2, G4, G5, fun x hx => ?_⟩
        · show R = g_wlk E f st.toNat (left - (i + 1)).toNat r.toNat (p_raw G)
          rw [m1, g1, show (left - (i + 1)).toNat = (left - i).toNat - 1 by omega]
        · show ((p_raw G).length : Int) = i + 1
          rw [g1, List.length_append, List.length_singleton]; omega
        · change x ∈ p_raw G at hx
          rw [g1] at hx
          rcases List.mem_append.mp hx with h | h
          · exact m6 x h
          · rw [List.mem_singleton.mp h]; exact hlp.1
      · rw [if_neg (Int.not_lt.mpr ge2), if_pos (by omega)] at m1
        unfold WX5_join_155 VX5_join_155
        rw [s_w (by omega) (by omega)]
        refine ⟨fun ne2 => absurd er ne2, fun _ => ⟨fun ne2 => ?_, fun ei => ?_⟩⟩
        · rw [if_neg (by omega)] at m1
          exact o0 m1 G frG
        · rw [if_pos (by omega), ← g1] at m1
          have rlG := p_raw_len g2
          rw [g1, List.length_append, List.length_singleton] at rlG
          have lpG : ∀ x ∈ p_raw G, s_lp x := by
            intro x hx
            rw [g1] at hx
            rcases List.mem_append.mp hx with h | h
            · exact m6 x h
            · rw [List.mem_singleton.mp h]; exact hlp.1
          refine c_close g2 (by omega) (fun k => g_pt_lp lpG k) (Or.inr (Or.inr rfl)) (fun o1 o2 H h1 h2 h3 => ⟨fun z => by omega, fun _ => q1 _ m1 ⟨o1, o2⟩ H h1 h2 (fun c hc => by rw [h3 c (by omega) (by omega) (by omega), frG c hc])⟩) (fun no H h2 h3 => ⟨fun _ => q0 (fun R' e' c => ?_) H (fun c hc => by rw [h3 c (by omega) (by omega) (by omega), frG c hc]), fun z => absurd rfl z⟩)
          rw [m1] at e'
          rw [← Option.some.inj e'] at c
          exact no c
  show ∃ j, WX5_join_35 Q j (f : Int) (-1) left 0 M5
  refine s_up (σ := Int) (P := fun dd i x => WX5_join_35 Q dd (f : Int) x left i M5) (n := M2 4426 11) (i0 := 0) (s := -1) (fun i x => (x = -1 ∧ ∀ j : Nat, (j : Int) < i → (!g_sh E f j) = false) ∨ (0 ≤ x ∧ x < i ∧ (!g_sh E f x.toNat) = true ∧ ∀ j : Nat, (j : Int) < x → (!g_sh E f j) = false)) (by omega) (Or.inl ⟨rfl, fun j hj => by omega⟩) ?_ ?_
  · intro d2 x hx
    unfold WX5_join_35 VX5_join_35
    refine ⟨fun _ => k70 x ?_, fun z => by omega⟩
    rw [hst]
    rcases hx with ⟨x1, x2⟩ | ⟨x1, x2, x3, x4⟩
    · rw [x1, g_fst_no (fun j hj => x2 j (by omega))]
    · rw [g_fst_at (i := x.toNat) (by omega) x3 (fun j hj => x4 j (by omega))]; omega
  · intro d2 i x k1' k2' hx ih
    unfold WX5_join_35 VX5_join_35
    have hsi := j1 i.toNat (by omega)
    refine ⟨fun z => by omega, fun _ => ⟨fun ge => k70 x ?_, fun lt => ⟨by omega, fun e0 => ?_, fun ne => ?_⟩⟩⟩
    · rw [hst]
      rcases hx with ⟨x1, x2⟩ | ⟨x1, x2, x3, x4⟩
      · omega
      · rw [g_fst_at (i := x.toNat) (by omega) x3 (fun j hj => x4 j (by omega))]; omega
    · show WX5_join_35 Q d2 (f : Int) i left (e_w32 (i + 1)) M5
      rw [s_w (by omega) (by omega)]
      refine ih i (Or.inr ⟨k1', by omega, by rw [hsi.mp e0]; rfl, ?_⟩)
      rcases hx with ⟨x1, x2⟩ | ⟨x1, x2, x3, x4⟩
      · exact x2
      · omega
    · show WX5_join_35 Q d2 (f : Int) (-1) left (e_w32 (i + 1)) M5
      rw [s_w (by omega) (by omega)]
      refine ih (-1) (Or.inl ⟨rfl, fun j hj => ?_⟩)
      rcases hx with ⟨x1, x2⟩ | ⟨x1, x2, x3, x4⟩
      · by_cases c : (j : Int) = i
        · have : g_sh E f i.toNat = true := by
            cases c : g_sh E f i.toNat with
            | true => rfl
            | false => exact absurd (hsi.mpr c) ne
          rw [show j = i.toNat by omega, this]; rfl
        · exact x2 j (by omega)
      · omega
