/-! the start: the law's entry as a state of the engine -/
noncomputable section
def st_A (s : State) : Nat → Prop := fun q => s.heap.size ≤ q
theorem st_hA (s : State) : ∀ a : Nat, a < s.heap.size → ¬ st_A s a := fun _ h => Nat.not_le.mpr h
/-- the String constants' bytes; the statics -/
def st_by (i : Nat) : List Int32 := (x_get [] e_sby i).map (fun n => Int32.ofNat n)
def st_f (q : String × Nat × String × Nat) : Term := .field (.string q.1 q.2.1) "java/lang/String" "value" "[B"
def st_s1 (q : String × Nat × String × Nat) : List Cond := [.exactly (.string q.1 q.2.1) "java/lang/String", .eq (.field (.string q.1 q.2.1) "java/lang/String" "coder" "B") (.int 0), .arrayOf (st_f q) .byte, .eq (.length (st_f q)) (.int (Int32.ofNat (e_slen.getD q.2.2.2 0)))] ++ (List.range (e_slen.getD q.2.2.2 0)).map (fun j => .eq (.elem (st_f q) (.int (Int32.ofNat j))) (.int ((st_by q.2.2.2).getD j 0)))
theorem st_eqS : ((flatC (Jvm.Cond.and given_1 narrow_1)).drop 66).take 1048 = e_strl.flatMap st_s1 := by decide +kernel
def st_vs : List (List Int) := [[80, 40, 40, 40, 40, 40, 30, 60], [0, 0, 40, 80, 120, 160, 200, 230], [5, 4, 2, 4, 4, 1, 2], [5, 4, 2, 4, 4, 1, 2]]
def st_a1 (q : String × String) (vs : List Int) : List Cond := [.isRef (.static q.1 q.2 "[I"), .arrayOf (.static q.1 q.2 "[I") .int, .eq (.length (.static q.1 q.2 "[I")) (.int (Int32.ofNat vs.length))] ++ (List.range vs.length).map (fun j => .eq (.elem (.static q.1 q.2 "[I") (.int (Int32.ofNat j))) (.int (Int32.ofInt (vs.getD j 0))))
theorem st_eqA0 : ((flatC (Jvm.Cond.and given_1 narrow_1)).drop 9).take 11 = st_a1 ("LandHouse", "MOST") [80, 40, 40, 40, 40, 40, 30, 60] := by decide +kernel
theorem st_eqA1 : ((flatC (Jvm.Cond.and given_1 narrow_1)).drop 20).take 11 = st_a1 ("LandHouse", "FIRST") [0, 0, 40, 80, 120, 160, 200, 230] := by decide +kernel
theorem st_eqA2 : ((flatC (Jvm.Cond.and given_1 narrow_1)).drop 31).take 10 = st_a1 ("LandHouse", "FACTS") [5, 4, 2, 4, 4, 1, 2] := by decide +kernel
theorem st_eqA3 : ((flatC (Jvm.Cond.and given_1 narrow_1)).drop 43).take 10 = st_a1 ("LandHouseModel", "TOLD") [5, 4, 2, 4, 4, 1, 2] := by decide +kernel
theorem st_tk {α : Type} {l r : List α} {i n : Nat} (h : (l.drop i).take n = r) {w : α} (hw : w ∈ r) : w ∈ l := List.mem_of_mem_drop (List.mem_of_mem_take (by rw [h]; exact hw))
theorem st_idx : ∀ i, i < 29 → ∃ q, e_strl[i]? = some q ∧ q.2.2.2 = i := by
  intro i hi
  have : ∀ i : Fin 29, (e_strl[i.1]?.map (fun q => q.2.2.2)) = some i.1 := by decide +kernel
  obtain ⟨q, h1, h2⟩ := Option.map_eq_some_iff.mp (this ⟨i, hi⟩)
  exact ⟨q, h1, h2⟩
theorem st_len : ∀ i, i < 29 → e_slen.getD i 0 < 2147483648 := by decide +kernel
section START
variable {args : Array Value} {s : State}
theorem st_str (hs : ∀ w ∈ flatC (Jvm.Cond.and given_1 narrow_1), w.before args s = true) {i : Nat} (hi : i < 29) : ∃ q ad av, e_strl[i]? = some q ∧ (Term.string q.1 q.2.1).eval args s none [] s = some (.ref ad) ∧ va_O "java/lang/String" ad (st_A s) s s.heap ∧ va_OF "java/lang/String" "coder" "B" (.int 0) ad (st_A s) s s.heap ∧ va_OF "java/lang/String" "value" "[B" (.ref av) ad (st_A s) s s.heap ∧ va_T .byte av (e_slen.getD i 0) (fun j => .int ((st_by i).getD j 0)) (st_A s) s s.heap := by
  obtain ⟨q, hq, hqi⟩ := st_idx i hi
  have hm : ∀ w ∈ st_s1 q, w.before args s = true := fun w hw => hs w (st_tk st_eqS (List.mem_flatMap.mpr ⟨q, List.mem_of_getElem? hq, hw⟩))
  have hr : ∀ j, j < e_slen.getD i 0 → (Cond.eq (.elem (st_f q) (.int (Int32.ofNat j))) (.int ((st_by i).getD j 0))).before args s = true := fun j hj => hm _ (List.mem_append_right _ (List.mem_map.mpr ⟨j, List.mem_range.mpr (by rw [hqi]; exact hj), by rw [hqi]⟩))
  obtain ⟨aK, aV, ⟨h1, -⟩, h2⟩ := vk_Sof (args := args) (s := s) (N := 1) (tm := fun _ => Term.string q.1 q.2.1) (len := [e_slen.getD i 0]) (byt := [st_by i]) (A := st_A s)
    (fun k hk => by
      obtain rfl : k = 0 := by omega
      exact st_len i hi)
    (fun k _ => hm _ (List.mem_append_left _ List.mem_cons_self)) (fun k _ => hm _ (List.mem_append_left _ (List.mem_cons_of_mem _ List.mem_cons_self))) (fun k _ => hm _ (List.mem_append_left _ (List.mem_cons_of_mem _ (List.mem_cons_of_mem _ List.mem_cons_self))))
    (fun k hk => by
      obtain rfl : k = 0 := by omega
      have := hm (.eq (.length (st_f q)) (.int (Int32.ofNat (e_slen.getD q.2.2.2 0)))) (List.mem_append_left _ (List.mem_cons_of_mem _ (List.mem_cons_of_mem _ (List.mem_cons_of_mem _ List.mem_cons_self))))
      rw [hqi] at this
      exact this)
    (fun k hk j hj => by
      obtain rfl : k = 0 := by omega
      exact hr j hj)
    (fun a b ha hb hne => absurd (show a = b by omega) hne) (st_hA s)
  obtain ⟨q1, q2, q3, q4⟩ := h1 0 (by decide)
  exact ⟨q, aK 0, aV 0, hq, h2 0 (by decide), q1, q2, q3, q4⟩
theorem st_tab {q : String × String} {vs : List Int} {i n : Nat} (hs : ∀ w ∈ flatC (Jvm.Cond.and given_1 narrow_1), w.before args s = true) (he : ((flatC (Jvm.Cond.and given_1 narrow_1)).drop i).take n = st_a1 q vs) (hl : (Cond.laysStatic q.1 q.2 "[I").before args s = true) (hini : (Cond.initialized q.1).before args s = true) (hn : vs.length < 2147483648) :
    ∃ t, va_Z q.1 q.2 "[I" (.ref t) (st_A s) s s.heap ∧ va_T .int t vs.length (fun j => .int (Int32.ofInt (vs.getD j 0))) (st_A s) s s.heap := by
  have hm : ∀ w ∈ st_a1 q vs, w.before args s = true := fun w hw => hs w (st_tk he hw)
  obtain ⟨t, ht, hT⟩ := va_Tof (args := args) (s := s) (tm := .static q.1 q.2 "[I") (ty := .int) (N := vs.length) (f := fun j => .int (Int32.ofInt (vs.getD j 0))) (A := st_A s) hn (hm _ (List.mem_append_left _ (List.mem_cons_of_mem _ List.mem_cons_self))) (va_eqt (hm _ (List.mem_append_left _ (List.mem_cons_of_mem _ (List.mem_cons_of_mem _ List.mem_cons_self))))) (fun j hj => va_eqt (hm _ (List.mem_append_right _ (List.mem_map.mpr ⟨j, List.mem_range.mpr hj, rfl⟩)))) (st_hA s)
  exact ⟨t, va_Zref hl hini ht (st_hA s), hT⟩
theorem st_tabs (hs : ∀ w ∈ flatC (Jvm.Cond.and given_1 narrow_1), w.before args s = true) (hts : ∀ w ∈ lw_tbl, w.before args s = true) {k : Nat} {q : String × String} (hq : e_stat[k]? = some q) : ∃ t, va_Z q.1 q.2 "[I" (.ref t) (st_A s) s s.heap ∧ va_T .int t (st_vs.getD k []).length (fun j => .int (Int32.ofInt ((st_vs.getD k []).getD j 0))) (st_A s) s s.heap := by
  match k, hq with
  | 0, hq => obtain rfl := Option.some.inj hq; exact st_tab hs st_eqA0 (hts _ (u2 (List.mem_of_getElem? (i := 64) (by decide +kernel)))) (hts _ (u1 (List.mem_of_getElem? (i := 1) (by decide +kernel)))) (by decide)
  | 1, hq => obtain rfl := Option.some.inj hq; exact st_tab hs st_eqA1 (hts _ (u4 (List.mem_of_getElem? (i := 208) (by decide +kernel)))) (hts _ (u1 (List.mem_of_getElem? (i := 1) (by decide +kernel)))) (by decide)
  | 2, hq => obtain rfl := Option.some.inj hq; exact st_tab hs st_eqA2 (hts _ (u8 (List.mem_of_getElem? (i := 6) (by decide +kernel)))) (hts _ (u1 (List.mem_of_getElem? (i := 1) (by decide +kernel)))) (by decide)
  | 3, hq => obtain rfl := Option.some.inj hq; exact st_tab hs st_eqA3 (hts _ (u13 (List.mem_of_getElem? (i := 110) (by decide +kernel)))) (hts _ (u1 (List.mem_of_getElem? (i := 17) (by decide +kernel)))) (by decide)
  | n + 4, hq => cases hq
theorem st_Os1 (hs : ∀ w ∈ flatC (Jvm.Cond.and given_1 narrow_1), w.before args s = true) (hts : ∀ w ∈ lw_tbl, w.before args s = true) : va_Z "java/lang/String" "COMPACT_STRINGS" "Z" (.int 1) (st_A s) s s.heap := va_Zof (hts _ (u1 (List.mem_of_getElem? (i := 164) (by decide +kernel)))) (hts _ (u1 (List.mem_of_getElem? (i := 4) (by decide +kernel)))) (va_eqt (hs _ (List.mem_of_getElem? (i := 4) (by decide +kernel)))) (st_hA s)
theorem st_Os2 (hs : ∀ w ∈ flatC (Jvm.Cond.and given_1 narrow_1), w.before args s = true) (hts : ∀ w ∈ lw_tbl, w.before args s = true) : ∃ v, va_Z "jdk/internal/util/Preconditions" "SIOOBE_FORMATTER" "Ljava/util/function/BiFunction;" v (st_A s) s s.heap ∧ (v = .null ∨ ∃ r, v = .ref r) := by
  have hz : va_Z "jdk/internal/util/Preconditions" "SIOOBE_FORMATTER" "Ljava/util/function/BiFunction;" .null (st_A s) s s.heap ∨ ∃ t, va_Z "jdk/internal/util/Preconditions" "SIOOBE_FORMATTER" "Ljava/util/function/BiFunction;" (.ref t) (st_A s) s s.heap := va_Zqof (hts _ (u1 (List.mem_of_getElem? (i := 180) (by decide +kernel)))) (hts _ (u1 (List.mem_of_getElem? (i := 6) (by decide +kernel)))) (hs _ (List.mem_of_getElem? (i := 5) (by decide +kernel))) (st_hA s)
  rcases hz with h | ⟨t, h⟩
  · exact ⟨_, h, Or.inl rfl⟩
  · exact ⟨_, h, Or.inr ⟨t, rfl⟩⟩
theorem st_Ox (hs : ∀ w ∈ flatC (Jvm.Cond.and given_1 narrow_1), w.before args s = true) (hts : ∀ w ∈ lw_tbl, w.before args s = true) : e_Ox (st_A s) s s.heap :=
  ⟨vx_Zqof (hts _ (u8 (List.mem_of_getElem? (i := 70) (by decide +kernel)))) (hts _ (u1 (List.mem_of_getElem? (i := 20) (by decide +kernel)))) (hs _ (List.mem_of_getElem? (i := 41) (by decide +kernel))) (st_hA s), vx_Zqof (hts _ (u8 (List.mem_of_getElem? (i := 72) (by decide +kernel)))) (hts _ (u1 (List.mem_of_getElem? (i := 20) (by decide +kernel)))) (hs _ (List.mem_of_getElem? (i := 42) (by decide +kernel))) (st_hA s)⟩
theorem st_K (hts : ∀ w ∈ lw_tbl, w.before args s = true) : ∃ (dC : Nat → ClassId) (dI : Nat → Nat → Nat), ∀ (c : Nat) (q : vw_C), e_cl[c]? = some q → u_Kn s q.1 q.2.1 q.2.2 (dC c) (dI c) := by
  have hg : ∀ w ∈ e_gd, w.before args s = true := fun w hw => hts w (List.mem_filter.mp hw).1
  have one : ∀ (kd own idx : _) (q : vw_C), e_cl[kd]? = some q → e_NL own idx kd → e_Lay q kd → ∃ (cC : ClassId) (iS : Nat → Nat), u_Kn s q.1 q.2.1 q.2.2 cC iS := by
    intro kd own idx q hq hn hlay
    obtain ⟨q', h1, h2, h3, h4⟩ := hn
    obtain rfl := Option.some.inj (hq.symm.trans h1)
    exact u_known (fun w hw => hts w hw) (fun w hw => (List.mem_filter.mp (hlay.1 w hw)).1) (hg _ h3)
  have all : ∀ c : Nat, ∃ z : ClassId × (Nat → Nat), ∀ q, e_cl[c]? = some q → u_Kn s q.1 q.2.1 q.2.2 z.1 z.2 := by
    intro c
    match c with
    | 0 => obtain ⟨cC, iS, h⟩ := one 0 _ _ _ rfl nX11_69 lay0; exact ⟨(cC, iS), fun q hq => by obtain rfl := Option.some.inj hq; exact h⟩
    | 1 => obtain ⟨cC, iS, h⟩ := one 1 _ _ _ rfl nX11_78 lay1; exact ⟨(cC, iS), fun q hq => by obtain rfl := Option.some.inj hq; exact h⟩
    | 2 => obtain ⟨cC, iS, h⟩ := one 2 _ _ _ rfl nX11_29 lay2; exact ⟨(cC, iS), fun q hq => by obtain rfl := Option.some.inj hq; exact h⟩
    | 3 => obtain ⟨cC, iS, h⟩ := one 3 _ _ _ rfl nX4_23 lay3; exact ⟨(cC, iS), fun q hq => by obtain rfl := Option.some.inj hq; exact h⟩
    | 4 => obtain ⟨cC, iS, h⟩ := one 4 _ _ _ rfl nX10_13 lay4; exact ⟨(cC, iS), fun q hq => by obtain rfl := Option.some.inj hq; exact h⟩
    | 5 => obtain ⟨cC, iS, h⟩ := one 5 _ _ _ rfl nX0_22 lay5; exact ⟨(cC, iS), fun q hq => by obtain rfl := Option.some.inj hq; exact h⟩
    | 6 => obtain ⟨cC, iS, h⟩ := one 6 _ _ _ rfl nX11_50 lay6; exact ⟨(cC, iS), fun q hq => by obtain rfl := Option.some.inj hq; exact h⟩
    | 7 => obtain ⟨cC, iS, h⟩ := one 7 _ _ _ rfl nX11_43 lay7; exact ⟨(cC, iS), fun q hq => by obtain rfl := Option.some.inj hq; exact h⟩
    | 8 => obtain ⟨cC, iS, h⟩ := one 8 _ _ _ rfl nX4_30 lay8; exact ⟨(cC, iS), fun q hq => by obtain rfl := Option.some.inj hq; exact h⟩
    | 9 => obtain ⟨cC, iS, h⟩ := one 9 _ _ _ rfl nX10_21 lay9; exact ⟨(cC, iS), fun q hq => by obtain rfl := Option.some.inj hq; exact h⟩
    | 10 => obtain ⟨cC, iS, h⟩ := one 10 _ _ _ rfl nX11_59 lay10; exact ⟨(cC, iS), fun q hq => by obtain rfl := Option.some.inj hq; exact h⟩
    | 11 => obtain ⟨cC, iS, h⟩ := one 11 _ _ _ rfl nL_8 lay11; exact ⟨(cC, iS), fun q hq => by obtain rfl := Option.some.inj hq; exact h⟩
    | 12 => obtain ⟨cC, iS, h⟩ := one 12 _ _ _ rfl nL_30 lay12; exact ⟨(cC, iS), fun q hq => by obtain rfl := Option.some.inj hq; exact h⟩
    | n + 13 => exact ⟨(0, fun _ => 0), fun q hq => by cases hq⟩
  obtain ⟨f, hf⟩ := Classical.axiomOfChoice all
  exact ⟨fun c => (f c).1, fun c => (f c).2, hf⟩
end START
/-- the String constants' words -/
theorem st_sr : ∀ q ∈ e_strl, Cond.stringRef q.1 q.2.1 q.2.2.1 ∈ lw_tbl := by
  unfold e_strl
  simp only [List.forall_mem_cons]
  exact ⟨u1 (List.mem_of_getElem? (i := 150) (by decide +kernel)), ⟨u1 (List.mem_of_getElem? (i := 203) (by decide +kernel)), ⟨u1 (List.mem_of_getElem? (i := 204) (by decide +kernel)), ⟨u1 (List.mem_of_getElem? (i := 205) (by decide +kernel)), ⟨u1 (List.mem_of_getElem? (i := 206) (by decide +kernel)), ⟨u7 (List.mem_of_getElem? (i := 16) (by decide +kernel)), ⟨u7 (List.mem_of_getElem? (i := 17) (by decide +kernel)), ⟨u7 (List.mem_of_getElem? (i := 18) (by decide +kernel)), ⟨u7 (List.mem_of_getElem? (i := 19) (by decide +kernel)), ⟨u7 (List.mem_of_getElem? (i := 20) (by decide +kernel)), ⟨u7 (List.mem_of_getElem? (i := 21) (by decide +kernel)), ⟨u7 (List.mem_of_getElem? (i := 22) (by decide +kernel)), ⟨u7 (List.mem_of_getElem? (i := 23) (by decide +kernel)), ⟨u7 (List.mem_of_getElem? (i := 47) (by decide +kernel)), ⟨u7 (List.mem_of_getElem? (i := 70) (by decide +kernel)), ⟨u7 (List.mem_of_getElem? (i := 71) (by decide +kernel)), ⟨u7 (List.mem_of_getElem? (i := 91) (by decide +kernel)), ⟨u7 (List.mem_of_getElem? (i := 92) (by decide +kernel)), ⟨u7 (List.mem_of_getElem? (i := 93) (by decide +kernel)), ⟨u7 (List.mem_of_getElem? (i := 94) (by decide +kernel)), ⟨u7 (List.mem_of_getElem? (i := 95) (by decide +kernel)), ⟨u7 (List.mem_of_getElem? (i := 119) (by decide +kernel)), ⟨u7 (List.mem_of_getElem? (i := 125) (by decide +kernel)), ⟨u7 (List.mem_of_getElem? (i := 130) (by decide +kernel)), ⟨u8 (List.mem_of_getElem? (i := 82) (by decide +kernel)), ⟨u8 (List.mem_of_getElem? (i := 119) (by decide +kernel)), ⟨u8 (List.mem_of_getElem? (i := 137) (by decide +kernel)), ⟨u8 (List.mem_of_getElem? (i := 145) (by decide +kernel)), ⟨u8 (List.mem_of_getElem? (i := 156) (by decide +kernel)), fun _ h => by cases h⟩⟩⟩⟩⟩⟩⟩⟩⟩⟩⟩⟩⟩⟩⟩⟩⟩⟩⟩⟩⟩⟩⟩⟩⟩⟩⟩⟩⟩
/-- the memory at the start: the script, the statics, the Strings' bytes -/
def st_m (xs : Nat → Int32) : e_M := fun a k => if a = 1000000 then (xs k).toInt else if a < 1000005 then (st_vs.getD (a - 1000001) []).getD k 0 else if a < 1000034 then 0 else (((x_get [] e_sby (a - 1000034)).getD k 0 : Nat) : Int)
def st_ad (b : Nat) (aT aK aV : Nat → Nat) (a : Nat) : Nat := if a = 1000000 then b else if a < 1000005 then aT (a - 1000001) else if a < 1000034 then aK (a - 1000005) else aV (a - 1000034)
theorem st_adT {b : Nat} {aT aK aV : Nat → Nat} {k : Nat} (hk : k < 4) : st_ad b aT aK aV (1000001 + k) = aT k := by
  unfold st_ad
  rw [if_neg (by omega), if_pos (by omega), show 1000001 + k - 1000001 = k by omega]
theorem st_adK {b : Nat} {aT aK aV : Nat → Nat} {k : Nat} (hk : k < 29) : st_ad b aT aK aV (1000005 + k) = aK k := by
  unfold st_ad
  rw [if_neg (by omega), if_neg (by omega), if_pos (by omega), show 1000005 + k - 1000005 = k by omega]
theorem st_adV {b : Nat} {aT aK aV : Nat → Nat} {k : Nat} (hk : k < 29) : st_ad b aT aK aV (1000034 + k) = aV k := by
  unfold st_ad
  rw [if_neg (by omega), if_neg (by omega), if_neg (by omega), show 1000034 + k - 1000034 = k by omega]
theorem st_shT {L k : Nat} (hk : k < 4) : e_sh L (1000001 + k) = (20, (st_vs.getD k []).length) := by
  match k, hk with
  | 0, _ => rfl
  | 1, _ => rfl
  | 2, _ => rfl
  | 3, _ => rfl
theorem st_shK {L k : Nat} (hk : k < 29) : e_sh L (1000005 + k) = (15, k + 1) := by
  unfold e_sh
  rw [if_pos (by omega), if_neg (by omega), if_neg (by omega), if_neg (by omega), if_neg (by omega), if_neg (by omega), if_pos (by omega), show 1000005 + k - 1000004 = k + 1 by omega]
theorem st_shV {L k : Nat} (hk : k < 29) : e_sh L (1000034 + k) = (22, e_slen.getD k 0) := by
  unfold e_sh
  rw [if_pos (by omega), if_neg (by omega), if_neg (by omega), if_neg (by omega), if_neg (by omega), if_neg (by omega), if_neg (by omega), if_pos (by omega), show 1000034 + k - 1000034 = k by omega]
theorem st_shX {L : Nat} : e_sh L 1000000 = (20, L) := rfl
theorem st_cases {a : Nat} (h : e_al 0 a) : a = 1000000 ∨ (∃ k, k < 4 ∧ a = 1000001 + k) ∨ (∃ k, k < 29 ∧ a = 1000005 + k) ∨ ∃ k, k < 29 ∧ a = 1000034 + k := by
  unfold e_al at h
  by_cases h1 : a = 1000000
  · exact Or.inl h1
  · by_cases h2 : a < 1000005
    · exact Or.inr (Or.inl ⟨a - 1000001, by omega, by omega⟩)
    · by_cases h3 : a < 1000034
      · exact Or.inr (Or.inr (Or.inl ⟨a - 1000005, by omega, by omega⟩))
      · exact Or.inr (Or.inr (Or.inr ⟨a - 1000034, by omega, by omega⟩))
theorem st_mT {xs : Nat → Int32} {k j : Nat} (hk : k < 4) : st_m xs (1000001 + k) j = (st_vs.getD k []).getD j 0 := by
  unfold st_m
  rw [if_neg (by omega), if_pos (by omega), show 1000001 + k - 1000001 = k by omega]
theorem st_mK {xs : Nat → Int32} {k j : Nat} (hk : k < 29) : st_m xs (1000005 + k) j = 0 := by
  unfold st_m
  rw [if_neg (by omega), if_neg (by omega), if_pos (by omega)]
theorem st_mV {xs : Nat → Int32} {k j : Nat} (hk : k < 29) : st_m xs (1000034 + k) j = (((x_get [] e_sby k).getD j 0 : Nat) : Int) := by
  unfold st_m
  rw [if_neg (by omega), if_neg (by omega), if_neg (by omega), show 1000034 + k - 1000034 = k by omega]
theorem st_rT : ∀ k, k < 4 → ∀ j, j < (st_vs.getD k []).length → -2147483648 ≤ (st_vs.getD k []).getD j 0 ∧ (st_vs.getD k []).getD j 0 < 2147483648 := by decide +kernel
theorem st_rV : ∀ k, k < 29 → (x_get [] e_sby k).all (fun b => Nat.blt b 128) = true ∧ (x_get [] e_sby k).length = e_slen.getD k 0 := by decide +kernel
theorem st_rV2 {k j : Nat} (hk : k < 29) : (x_get [] e_sby k).getD j 0 < 128 := by
  obtain ⟨h1, -⟩ := st_rV k hk
  rw [List.getD_eq_getElem?_getD]
  cases h : (x_get [] e_sby k)[j]? with
  | none => decide
  | some b => exact Nat.blt_eq.mp (List.all_eq_true.mp h1 b (List.mem_of_getElem? h))
theorem st_by_get {k j : Nat} : (st_by k).getD j 0 = Int32.ofInt (((x_get [] e_sby k).getD j 0 : Nat) : Int) := by
  unfold st_by
  rw [List.getD_eq_getElem?_getD, List.getD_eq_getElem?_getD, List.getElem?_map]
  cases (x_get [] e_sby k)[j]? with
  | none => rfl
  | some b => exact (Int32.ofInt_eq_ofNat).symm
theorem st_e20 : e_tg 20 0 = 0 := rfl
theorem st_e22 : e_tg 22 0 = 2 := rfl
/-- the heap holds that memory -/
theorem st_Rep {s : State} {b L : Nat} {xs : Nat → Int32} {aT aK aV : Nat → Nat} {D : va_G} (hL : L ≤ 3072) (hX : va_X b L xs s s.heap) (hT : ∀ k q, e_stat[k]? = some q → va_T .int (aT k) (st_vs.getD k []).length (fun j => .int (Int32.ofInt ((st_vs.getD k []).getD j 0))) (st_A s) s s.heap)
    (hKO : ∀ i, i < 29 → va_O "java/lang/String" (aK i) (st_A s) s s.heap) (hV : ∀ i, i < 29 → va_T .byte (aV i) (e_slen.getD i 0) (fun j => .int ((st_by i).getD j 0)) (st_A s) s s.heap) (hD : ∀ i, i < 29 → D.2 50 (i + 1) = aK i) : e_Rep (e_sh L) D s (st_ad b aT aK aV) (st_m xs, 0) s.heap := by
  refine ⟨fun a ha => ?_, fun a c _ hc => absurd hc (Nat.not_lt_zero c), fun a k ha hk => ?_⟩
  · dsimp only
    rcases st_cases ha with rfl | ⟨k, hk, rfl⟩ | ⟨k, hk, rfl⟩ | ⟨k, hk, rfl⟩
    · obtain ⟨scr, h1, h2, h3, h4, h5⟩ := hX
      refine ⟨scr, h1, Or.inr (Or.inl ⟨(by decide : (20 : Nat) ≤ 20), ⟨h2, Or.inl (by decide : (20 : Nat) < 30)⟩, h3, ⟨Nat.le_of_eq h4.symm, congrArg Nat.toInt32 h4⟩, fun j hj => ?_⟩)⟩
      rw [h5 j hj]
      show some (Value.int (xs j)) = some (Value.int (Int32.ofInt (xs j).toInt))
      rw [Int32.ofInt_toInt]
    · have hq : ∃ q, e_stat[k]? = some q := by
        match k, hk with
        | 0, _ => exact ⟨_, rfl⟩
        | 1, _ => exact ⟨_, rfl⟩
        | 2, _ => exact ⟨_, rfl⟩
        | 3, _ => exact ⟨_, rfl⟩
      obtain ⟨q, hq⟩ := hq
      obtain ⟨cell, h1, h2, h3, h4, h5, h6, -⟩ := hT k q hq
      rw [st_shT hk, st_adT hk]
      refine ⟨cell, h1, Or.inr (Or.inl ⟨(by decide : (20 : Nat) ≤ 20), ⟨h2, Or.inl (by decide : (20 : Nat) < 30)⟩, h3, ⟨h4, h5⟩, fun j hj => ?_⟩)⟩
      rw [h6 j hj, st_mT hk]
      rfl
    · obtain ⟨cell, h1, -⟩ := hKO k hk
      rw [st_shK hk, st_adK hk]
      exact ⟨cell, h1, Or.inr (Or.inr ⟨rfl, (hD k hk).symm⟩)⟩
    · obtain ⟨cell, h1, h2, h3, h4, h5, h6, -⟩ := hV k hk
      rw [st_shV hk, st_adV hk]
      refine ⟨cell, h1, Or.inr (Or.inl ⟨(by decide : (20 : Nat) ≤ 22), ⟨h2, Or.inl (by decide : (22 : Nat) < 30)⟩, h3, ⟨h4, h5⟩, fun j hj => ?_⟩)⟩
      rw [h6 j hj, st_mV hk]
      dsimp only
      rw [st_by_get]
      rfl
  · dsimp only at *
    rcases st_cases ha with rfl | ⟨i, hi, rfl⟩ | ⟨i, hi, rfl⟩ | ⟨i, hi, rfl⟩
    · show e_i32 (xs k).toInt
      exact ⟨(xs k).le_toInt, (xs k).toInt_lt⟩
    · rw [st_shT hi] at hk ⊢
      rw [st_mT hi]
      exact st_rT i hi k hk
    · rw [st_shK hi, st_mK hi]
      show e_so 0 (e_tg 15 k) 0
      have h9 : e_tg 15 k = 0 := rfl
      rw [h9]
      exact (⟨by decide, by decide⟩ : e_i32 0)
    · rw [st_shV hi, st_mV hi]
      have := st_rV2 (j := k) hi
      show -128 ≤ _ ∧ _
      exact ⟨by omega, by omega⟩
end

