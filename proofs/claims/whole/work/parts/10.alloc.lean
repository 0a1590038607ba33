/-! rows of the engine: new cells, constants, final fields -/
def e_nw (m : e_M) (t : Nat) (d : Nat → Int) : e_M := fun a k => if a = t then d k else m a k
theorem e_nw_old {m : e_M} {t a : Nat} {d : Nat → Int} (h : a ≠ t) : e_nw m t d a = m a := by funext k; unfold e_nw; rw [if_neg h]
theorem e_nw_at {m : e_M} {t : Nat} {d : Nat → Int} : e_nw m t d t = d := by funext k; unfold e_nw; rw [if_pos rfl]
def e_ad (ad : Nat → Nat) (t q : Nat) : Nat → Nat := fun a => if a = t then q else ad a
theorem e_ad_old {ad : Nat → Nat} {t q a : Nat} (ht : t < 1000000) (h : e_al t a) : e_ad ad t q a = ad a := by unfold e_ad; rw [if_neg (by unfold e_al at h; omega)]
theorem e_ad_at {ad : Nat → Nat} {t q : Nat} : e_ad ad t q t = q := by unfold e_ad; rw [if_pos rfl]
theorem e_al_succ {t a : Nat} (h : e_al (t + 1) a) : e_al t a ∨ a = t := by unfold e_al at *; omega
theorem e_ce.congr {D : va_G} {s : State} {ad ad' : Nat → Nat} {kd n t : Nat} {f : Nat → Int} {H : Heap} {q : Nat} (hc : ∀ a, e_al t a → ad' a = ad a) (hf : ∀ k, k < n → e_so t (e_tg kd (if kd < 20 then k else 0)) (f k)) (h : e_ce D s ad kd n f H q) : e_ce D s ad' kd n f H q := by
  obtain ⟨cell, h1, h2 | h2 | h2⟩ := h
  · refine ⟨cell, h1, Or.inl ⟨h2.1, h2.2.1, h2.2.2.1, h2.2.2.2.1, fun k hk => ?_⟩⟩
    have := hf k hk
    rw [if_pos h2.1] at this
    rw [e_sv_congr hc this]
    exact h2.2.2.2.2 k hk
  · refine ⟨cell, h1, Or.inr (Or.inl ⟨h2.1, h2.2.1, h2.2.2.1, h2.2.2.2.1, fun k hk => ?_⟩)⟩
    have := hf k hk
    rw [if_neg (by have := h2.1; omega)] at this
    rw [e_sv_congr hc this]
    exact h2.2.2.2.2 k hk
  · exact ⟨cell, h1, Or.inr (Or.inr h2)⟩
section ALLOC
variable {sh : Nat → Nat × Nat} {Y : e_Y} {rm : Nat × Nat × Nat} {pc : Nat} {ls st : List e_V} {g : e_G} {cs : Nat × Nat} {Q : Option e_V → e_G → Prop} {x y a i : Int}
theorem e_Rep.grow {D : va_G} {s : State} {ad : Nat → Nat} {H H1 : Heap} {d : Nat → Int} (ht : g.2 < 1000000) (hR : e_Rep sh D s ad g H) (h1 : e_ce D s (e_ad ad g.2 H.size) (sh g.2).1 (sh g.2).2 d H1 H.size) (h2 : ∀ q, q < H.size → H1[q]? = H[q]?)
    (hd : ∀ k, k < (sh g.2).2 → e_so (g.2 + 1) (e_tg (sh g.2).1 (if (sh g.2).1 < 20 then k else 0)) (d k)) : e_Rep sh D s (e_ad ad g.2 H.size) (e_nw g.1 g.2 d, g.2 + 1) H1 := by
  have ne : ∀ a, e_al g.2 a → a ≠ g.2 := fun a ha => by unfold e_al at ha; omega
  have lt : ∀ a, e_al g.2 a → ad a < H.size := fun a ha => (hR.1 a ha).lt
  refine ⟨fun a ha => ?_, fun a b ha hb hab => ?_, fun a k ha hk => ?_⟩
  · dsimp only at *
    rcases e_al_succ ha with ha | rfl
    · rw [e_nw_old (ne a ha), e_ad_old ht ha]
      exact ((hR.1 a ha).kept (h2 _ (lt a ha))).congr (fun b hb => e_ad_old ht hb) (fun k hk => hR.2.2 a k ha hk)
    · rw [e_nw_at, e_ad_at]; exact h1
  · dsimp only at *
    rcases e_al_succ ha with ha | rfl
    · by_cases hb2 : b < g.2
      · rw [e_ad_old ht ha, e_ad_old ht (Or.inl hb2)] at hab
        exact hR.2.1 a b ha hb2 hab
      · have hb3 : b = g.2 := by omega
        rw [hb3, e_ad_old ht ha, e_ad_at] at hab
        have := lt a ha
        omega
    · by_cases hb2 : b < g.2
      · rw [e_ad_old ht (Or.inl hb2), e_ad_at] at hab
        have := lt b (Or.inl hb2)
        omega
      · omega
  · dsimp only at *
    rcases e_al_succ ha with ha | rfl
    · rw [e_nw_old (ne a ha)]
      exact (hR.2.2 a k ha hk).mono (Nat.le_succ _)
    · rw [e_nw_at]; exact hd k hk
theorem e_I.grow {D : va_G} {s : State} {ad0 : Nat → Nat} {t0 : Nat} {ad : Nat → Nat} {H H1 : Heap} {locs : List Loc} {d : Nat → Int} (ht : g.2 < 1000000) (hI : e_I sh D s ad0 t0 ad g H locs) (h1 : e_ce D s (e_ad ad g.2 H.size) (sh g.2).1 (sh g.2).2 d H1 H.size) (hz : H1.size = H.size + 1) (h2 : ∀ q, q < H.size → H1[q]? = H[q]?)
    (hd : ∀ k, k < (sh g.2).2 → e_so (g.2 + 1) (e_tg (sh g.2).1 (if (sh g.2).1 < 20 then k else 0)) (d k)) : e_I sh D s ad0 t0 (e_ad ad g.2 H.size) (e_nw g.1 g.2 d, g.2 + 1) H1 locs := by
  obtain ⟨hR, i2, i3, i4, i5, i6⟩ := hI
  refine ⟨hR.grow ht h1 h2 hd, fun a ha => ?_, Nat.le_succ_of_le i3, fun a h3 h4 => ?_, ⟨Nat.le_trans i5.1 (by omega), fun q q1 q2 => (h2 q (Nat.lt_of_lt_of_le q1 i5.1)).trans (i5.2.1 q q1 q2), i5.2.2⟩, ?_⟩
  · rw [e_ad_old ht (ha.mono i3)]; exact i2 a ha
  · dsimp only at h4
    by_cases ha : a = g.2
    · subst ha; rw [e_ad_at]; exact i5.1
    · have h5 : a < g.2 := by omega
      rw [e_ad_old ht (Or.inl h5)]; exact i4 a h3 h5
  · refine ((i6.congr (fun a ha => e_ad_old ht ha)).wide (B := e_W (e_ad ad g.2 H.size) (g.2 + 1)) (fun q hq => ?_)).kept (fun q hq _ => h2 q hq)
    obtain ⟨b, hb, rfl⟩ := hq
    by_cases hbt : b = g.2
    · subst hbt; rw [e_ad_at]; exact Or.inr (Nat.le_refl _)
    · have h5 : b < g.2 := by omega
      rw [e_ad_old ht (Or.inl h5)]; exact Or.inl ⟨b, h5, rfl⟩
theorem e_st_congr {ad ad' : Nat → Nat} {t : Nat} (hc : ∀ a, e_al t a → ad' a = ad a) : ∀ {st : List e_V}, (∀ v ∈ st, e_ok t v ∧ v ≠ .inr (.inr (.inr ()))) → st.map (e_vv ad') = st.map (e_vv ad)
  | [], _ => rfl
  | v :: r, h => by
    rw [List.map_cons, List.map_cons, e_vv_congr hc (h v List.mem_cons_self).1, e_st_congr hc (fun w hw => h w (List.mem_cons_of_mem _ hw))]
/-- a step that makes a cell -/
theorem e_grown {p : Program} {l : Launch} {e : Env} {s : State} {m : MethodId} {args : Array Value} {below : List Frame} {meth : Method} {c : Code} {D : va_G} {ad0 : Nat → Nat} {t0 : Nat} {ad : Nat → Nat} {H H1 : Heap} {locs : List Loc} {lsJ : Array Slot} {d : Nat → Int} {pc' N : Nat}
    (hC : e_Cx p l s m args meth c Y) (hE : e_Env D s) (hI : e_I sh D s ad0 t0 ad g H locs) (hL : e_L ad Y.2.2.1 ls lsJ) (hls : ∀ v ∈ ls, e_ok g.2 v) (hst : ∀ v ∈ st, e_ok g.2 v ∧ v ≠ .inr (.inr (.inr ()))) (ht : g.2 < 1000000)
    (h1 : e_ce D s (e_ad ad g.2 H.size) (sh g.2).1 (sh g.2).2 d H1 H.size) (hz : H1.size = H.size + 1) (h2 : ∀ q, q < H.size → H1[q]? = H[q]?) (hd : ∀ k, k < (sh g.2).2 → e_so (g.2 + 1) (e_tg (sh g.2).1 (if (sh g.2).1 < 20 then k else 0)) (d k))
    (kk : e_T sh Y rm pc' ls (.inr (.inr (.inl (g.2 : Int))) :: st) (e_nw g.1 g.2 d, g.2 + 1) (cs.1 + 1, cs.2 + N) Q) :
    W p l e (e_rm rm) s m args below meth c H1 locs (cs.1 + 1) (cs.2 + N) (e_Fi below sh D ad0 t0 Q args s rm) (F0 m pc' lsJ (.ref H.size :: st.map (e_vv ad))) := by
  have hc : ∀ a, e_al g.2 a → e_ad ad g.2 H.size a = ad a := fun a ha => e_ad_old ht ha
  have key := kk p l e s m args below meth c D ad0 t0 (e_ad ad g.2 H.size) H1 locs lsJ hC hE (hI.grow ht h1 hz h2 hd) (hL.congr hc hls) (fun v hv => (hls v hv).mono (Nat.le_succ _))
    (e_ok_cons (v := .inr (.inr (.inl (g.2 : Int)))) (Or.inr ⟨by omega, Or.inl (by dsimp only; omega)⟩) e_na (fun v hv => ⟨(hst v hv).1.mono (Nat.le_succ _), (hst v hv).2⟩))
  rw [List.map_cons, e_st_congr hc hst, show e_vv (e_ad ad g.2 H.size) (.inr (.inr (.inl (g.2 : Int)))) = .ref H.size from by
    rw [show e_vv (e_ad ad g.2 H.size) (.inr (.inr (.inl (g.2 : Int)))) = .ref (e_ad ad g.2 H.size (g.2 : Int).toNat) from e_rv_pos (by omega), Int.toNat_natCast, e_ad_at]] at key
  exact key
/-- what a new object's slots hold -/
def e_df (kd : Nat) : Nat → Int := fun k => if e_tg kd k = 4 then -1 else 0
def e_NL (own : String) (idx kd : Nat) : Prop := ∃ q : vw_C, e_cl[kd]? = some q ∧ Cond.classLink own idx q.1 ∈ e_gd ∧ Cond.instantiable q.1 q.2.2 ∈ e_gd ∧ Cond.initialized q.1 ∈ e_gd ∧ e_Lay q kd
theorem e_new {idx kd N : Nat} (hdg : decode Y.2.1 pc = .ok (.new idx, 3)) (hf : e_NL Y.1.cls idx kd) (hs : sh g.2 = (kd, N)) (hN : e_num kd = N) (ht : g.2 < 1000000) (h1 : cs.1 + 1 ≤ rm.2.1) (h2 : cs.2 + N ≤ rm.2.2)
    (kk : e_T sh Y rm (pc + 3) ls (.inr (.inr (.inl (g.2 : Int))) :: st) (e_nw g.1 g.2 (e_df kd), g.2 + 1) (cs.1 + 1, cs.2 + N) Q) : e_T sh Y rm pc ls st g cs Q := by
  intro p l e s m args below meth c D ad0 t0 ad H locs lsJ hC hE hI hL hls hst
  obtain ⟨q, hq, hlink, hins, hini, hlay⟩ := hf
  have hkd := e_cl_lt hq
  have hKn := hE.1 kd _ hq
  obtain ⟨ty, hty, htt⟩ := hlay.2.1
  have hNq : N = q.2.2 := by rw [← hN]; exact e_num_of hq
  refine W.newcK hC.1 hC.2.1 hC.2.2.2.2.1 (hC.2.2.2.2.2.1 _ hlink) (by rw [hNq]; exact hC.2.2.2.2.2.1 _ hins) (hC.2.2.2.2.2.1 _ hini) rfl hdg h1 h2 hKn.2.1 rfl fun H1 kC hkC e1 z1 o1 => ?_
  refine e_grown hC hE hI hL hls hst ht (d := e_df kd) ?_ z1 o1 ?_ kk
  · obtain ⟨cell, c1, c2, c3, c4⟩ := u_born ty hC.2.2.2.2.2.1 hlay.1 hKn hkC e1 hty
    refine ⟨cell, c1, Or.inl ⟨by rw [hs]; exact hkd, by rw [hs]; exact hN.symm, by rw [hs]; exact c2, c3, fun k hk => ?_⟩⟩
    rw [hs] at hk ⊢
    have hk : k < N := hk
    rw [hNq] at hk
    rw [c4 k hk]
    have h9 := htt k hk
    show some (defaultValue (ty k)) = _
    unfold e_df e_sv
    cases hty9 : ty k <;> rw [hty9] at h9 <;> simp only [e_tyt, Option.some.injEq, reduceCtorEq] at h9 <;> (rw [← h9]; rfl)
  · intro k hk
    rw [hs] at hk ⊢
    rw [if_pos (show (kd, N).1 < 20 from hkd)]
    show e_so _ (e_tg kd k) _
    have hk : k < N := hk
    rw [hNq] at hk
    have h9 := htt k hk
    unfold e_df
    cases hty9 : ty k <;> rw [hty9] at h9 <;> simp only [e_tyt, Option.some.injEq, reduceCtorEq] at h9 <;> first
      | (rw [← h9]; exact Or.inl rfl)
      | (rw [← h9]; exact ⟨by decide, by decide⟩)
theorem e_newa_aux {D : va_G} {s : State} {ad : Nat → Nat} {kd N : Nat} {H1 : Heap} {q : Nat} {cA : ClassId} {v : Value} {n : Int} (hk : 20 ≤ kd) (hv : e_sv ad (e_tg kd 0) n = v) (hc : H1[q]? = some (arrV cA N (fun _ => v))) (ha : e_arr s kd (arrV cA N (fun _ => v))) : e_ce D s ad kd N (fun _ => n) H1 q := by
  have hu : (arrV cA N (fun _ => v)).vm ≠ .unknown := by
    intro h
    cases h
  refine ⟨_, hc, Or.inr (Or.inl ⟨hk, ha, hu, ⟨Nat.le_of_eq (arrV_size _ _ _).symm, congrArg Nat.toInt32 (arrV_size _ _ _)⟩, fun k hk => ?_⟩)⟩
  rw [arrV_read _ _ hk, hv]
theorem e_newI {N : Nat} (hdg : decode Y.2.1 pc = .ok (.newarray .int, 2)) (hw : Cond.arrayClass .int ∈ e_gd) (hs : sh g.2 = (20, N)) (hN : N ≤ 100000) (ht : g.2 < 1000000) (h1 : cs.1 + 1 ≤ rm.2.1) (h2 : cs.2 + N ≤ rm.2.2)
    (kk : e_T sh Y rm (pc + 2) ls (.inr (.inr (.inl (g.2 : Int))) :: st) (e_nw g.1 g.2 (fun _ => 0), g.2 + 1) (cs.1 + 1, cs.2 + N) Q) : e_T sh Y rm pc ls (.inl (N : Int) :: st) g cs Q := by
  intro p l e s m args below meth c D ad0 t0 ad H locs lsJ hC hE hI hL hls hst
  obtain ⟨hir, hs2⟩ := e_ok_pop hst
  have h0 : (0 : Int) ≤ (N : Int) := by omega
  refine W.newaK hC.1 hC.2.1 (atype := .int) (hC.2.2.2.2.2.1 _ hw) rfl hdg rfl (by rw [e_neg hir]; omega) (by rw [e_ix hir h0]; exact Int.toNat_natCast N) (by show N * 4 ≤ _; omega) h1 h2 rfl fun H1 cA e1 z1 o1 hA => ?_
  exact e_grown hC hE hI hL hls hs2 ht (d := fun _ => 0) (by rw [hs]; exact e_newa_aux (Nat.le_of_ble_eq_true rfl) rfl e1 ⟨hA _ _, Or.inl (Nat.lt_of_lt_of_le (Nat.lt_succ_self _) (Nat.le_of_ble_eq_true rfl))⟩) z1 o1 (by rw [hs]; exact fun k _ => (⟨by decide, by decide⟩ : e_i32 0)) kk
theorem e_newJ {N : Nat} (hdg : decode Y.2.1 pc = .ok (.newarray .long, 2)) (hw : Cond.arrayClass .long ∈ e_gd) (hs : sh g.2 = (23, N)) (hN : N ≤ 100000) (ht : g.2 < 1000000) (h1 : cs.1 + 1 ≤ rm.2.1) (h2 : cs.2 + N ≤ rm.2.2)
    (kk : e_T sh Y rm (pc + 2) ls (.inr (.inr (.inl (g.2 : Int))) :: st) (e_nw g.1 g.2 (fun _ => 0), g.2 + 1) (cs.1 + 1, cs.2 + N) Q) : e_T sh Y rm pc ls (.inl (N : Int) :: st) g cs Q := by
  intro p l e s m args below meth c D ad0 t0 ad H locs lsJ hC hE hI hL hls hst
  obtain ⟨hir, hs2⟩ := e_ok_pop hst
  have h0 : (0 : Int) ≤ (N : Int) := by omega
  refine W.newaK hC.1 hC.2.1 (atype := .long) (hC.2.2.2.2.2.1 _ hw) rfl hdg rfl (by rw [e_neg hir]; omega) (by rw [e_ix hir h0]; exact Int.toNat_natCast N) (by show N * 8 ≤ _; omega) h1 h2 rfl fun H1 cA e1 z1 o1 hA => ?_
  exact e_grown hC hE hI hL hls hs2 ht (d := fun _ => 0) (by rw [hs]; exact e_newa_aux (Nat.le_of_ble_eq_true rfl) rfl e1 ⟨hA _ _, Or.inl (Nat.lt_of_lt_of_le (Nat.lt_succ_self _) (Nat.le_of_ble_eq_true rfl))⟩) z1 o1 (by rw [hs]; exact fun k _ => (⟨by decide, by decide⟩ : e_i64 0)) kk
theorem e_newB {N : Nat} (hdg : decode Y.2.1 pc = .ok (.newarray .byte, 2)) (hw : Cond.arrayClass .byte ∈ e_gd) (hs : sh g.2 = (22, N)) (hN : N ≤ 100000) (ht : g.2 < 1000000) (h1 : cs.1 + 1 ≤ rm.2.1) (h2 : cs.2 + N ≤ rm.2.2)
    (kk : e_T sh Y rm (pc + 2) ls (.inr (.inr (.inl (g.2 : Int))) :: st) (e_nw g.1 g.2 (fun _ => 0), g.2 + 1) (cs.1 + 1, cs.2 + N) Q) : e_T sh Y rm pc ls (.inl (N : Int) :: st) g cs Q := by
  intro p l e s m args below meth c D ad0 t0 ad H locs lsJ hC hE hI hL hls hst
  obtain ⟨hir, hs2⟩ := e_ok_pop hst
  have h0 : (0 : Int) ≤ (N : Int) := by omega
  refine W.newaK hC.1 hC.2.1 (atype := .byte) (hC.2.2.2.2.2.1 _ hw) rfl hdg rfl (by rw [e_neg hir]; omega) (by rw [e_ix hir h0]; exact Int.toNat_natCast N) (by show N * 1 ≤ _; omega) h1 h2 rfl fun H1 cA e1 z1 o1 hA => ?_
  exact e_grown hC hE hI hL hls hs2 ht (d := fun _ => 0) (by rw [hs]; exact e_newa_aux (Nat.le_of_ble_eq_true rfl) rfl e1 ⟨hA _ _, Or.inl (Nat.lt_of_lt_of_le (Nat.lt_succ_self _) (Nat.le_of_ble_eq_true rfl))⟩) z1 o1 (by rw [hs]; exact fun k _ => (⟨by decide, by decide⟩ : (-128 : Int) ≤ 0 ∧ (0 : Int) < 128)) kk
theorem e_newZ {N : Nat} (hdg : decode Y.2.1 pc = .ok (.newarray .boolean, 2)) (hw : Cond.arrayClass .boolean ∈ e_gd) (hs : sh g.2 = (21, N)) (hN : N ≤ 100000) (ht : g.2 < 1000000) (h1 : cs.1 + 1 ≤ rm.2.1) (h2 : cs.2 + N ≤ rm.2.2)
    (kk : e_T sh Y rm (pc + 2) ls (.inr (.inr (.inl (g.2 : Int))) :: st) (e_nw g.1 g.2 (fun _ => 0), g.2 + 1) (cs.1 + 1, cs.2 + N) Q) : e_T sh Y rm pc ls (.inl (N : Int) :: st) g cs Q := by
  intro p l e s m args below meth c D ad0 t0 ad H locs lsJ hC hE hI hL hls hst
  obtain ⟨hir, hs2⟩ := e_ok_pop hst
  have h0 : (0 : Int) ≤ (N : Int) := by omega
  refine W.newaK hC.1 hC.2.1 (atype := .boolean) (hC.2.2.2.2.2.1 _ hw) rfl hdg rfl (by rw [e_neg hir]; omega) (by rw [e_ix hir h0]; exact Int.toNat_natCast N) (by show N * 1 ≤ _; omega) h1 h2 rfl fun H1 cA e1 z1 o1 hA => ?_
  exact e_grown hC hE hI hL hls hs2 ht (d := fun _ => 0) (by rw [hs]; exact e_newa_aux (Nat.le_of_ble_eq_true rfl) rfl e1 ⟨hA _ _, Or.inl (Nat.lt_of_lt_of_le (Nat.lt_succ_self _) (Nat.le_of_ble_eq_true rfl))⟩) z1 o1 (by rw [hs]; exact fun k _ => (Or.inl rfl : (0 : Int) = 0 ∨ (0 : Int) = 1)) kk
theorem e_newQ {idx kd N : Nat} {C : String} (hdg : decode Y.2.1 pc = .ok (.anewarray idx, 3)) (hq : e_cl[kd]?.map (fun q => q.1) = some C) (hw : Cond.classLink Y.1.cls idx C ∈ e_gd) (hC9 : C = "LandHouse$Deed" ∨ C = "LandHouse$Lot" ∨ C = "LandHouse$Thing") (hs : sh g.2 = (30 + kd, N)) (hN : N ≤ 100000) (ht : g.2 < 1000000) (h1 : cs.1 + 1 ≤ rm.2.1) (h2 : cs.2 + N ≤ rm.2.2)
    (kk : e_T sh Y rm (pc + 3) ls (.inr (.inr (.inl (g.2 : Int))) :: st) (e_nw g.1 g.2 (fun _ => -1), g.2 + 1) (cs.1 + 1, cs.2 + N) Q) : e_T sh Y rm pc ls (.inl (N : Int) :: st) g cs Q := by
  intro p l e s m args below meth c D ad0 t0 ad H locs lsJ hC hE hI hL hls hst
  obtain ⟨hir, hs2⟩ := e_ok_pop hst
  have h0 : (0 : Int) ≤ (N : Int) := by omega
  have hov : (Cond.arrayOver (.object C)).before args s = true := by
    rcases hC9 with rfl | rfl | rfl
    · exact va_AO.use hE.2.2.1
    · exact va_AO.use hE.2.2.2.1
    · exact va_AO.use hE.2.2.2.2.1
  have hnN : (Int32.ofInt (N : Int)).toNatClampNeg = N := by rw [e_ix hir h0]; exact Int.toNat_natCast N
  have htg : e_tg (30 + kd) 0 = 4 := by unfold e_tg; rw [if_neg (by omega), if_neg (by omega), if_neg (by omega), if_neg (by omega), if_neg (by omega)]
  have haty : e_aty (30 + kd) = .object C := by
    unfold e_aty
    rw [if_neg (by omega), if_neg (by omega), if_neg (by omega), if_neg (by omega), show 30 + kd - 30 = kd by omega, hq]; rfl
  refine W.anew hC.1 hC.2.1 hC.2.2.2.2.1 (hC.2.2.2.2.2.1 _ hw) hov rfl hdg rfl (by rw [e_neg hir]; omega) (by rw [hnN]; omega) h1 (by rw [hnN]; exact h2) fun cA kA comp f1 f2 f3 f4 => ?_
  rw [hnN]
  have hcell : ({ cls := cA, slots := Array.replicate N .null, vm := .none } : Cell) = arrV cA N (fun _ => .null) := arrV_new _ _ _
  rw [hcell]
  refine e_grown hC hE hI hL hls hs2 ht (d := fun _ => -1) ?_ (by simp) (fun q hq => by rw [Array.getElem?_push, if_neg (Nat.ne_of_lt hq)]) ?_ kk
  · rw [hs]
    refine e_newa_aux (v := .null) (cA := cA) (by show 20 ≤ 30 + kd; omega) (by rw [htg]; rfl) (by simp) ⟨⟨fun k h => (by cases h), kA, f2, comp, by rw [haty]; exact f3⟩, Or.inr ⟨kA, comp, f2, by rw [haty]; exact f3, ?_⟩⟩
    rw [show 30 + kd - 30 = kd by omega, hq]; exact f4
  · rw [hs]
    intro k _
    rw [if_neg (by show ¬ 30 + kd < 20; omega), htg]
    exact Or.inl rfl
theorem e_obj {idx : Nat} (hdg : decode Y.2.1 pc = .ok (.invokespecial idx, 3)) (hl : Cond.methodLink Y.1.cls idx Lib.objectInit ∈ e_gd) (h2 : Cond.instanceMethod Lib.objectInit ∈ e_gd) (h3 : Cond.code Lib.objectInit ⟨#[0xb1]⟩ 1 none ∈ e_gd) (h0 : 0 ≤ a) (hst0 : st = []) (hr : 1 ≤ rm.1) (kk : e_T sh Y rm (pc + 3) ls st g cs Q) : e_T sh Y rm pc ls (.inr (.inr (.inl a)) :: st) g cs Q := by
  intro p l e s m args below meth c D ad0 t0 ad H locs lsJ hC hE hI hL hls hst
  obtain ⟨ha, hs2⟩ := e_ok_pop hst
  have key := kk p l e s m args below meth c D ad0 t0 ad H locs lsJ hC hE hI hL hls hs2
  subst hst0
  rw [List.map_cons, show e_vv ad (.inr (.inr (.inl a))) = .ref (ad a.toNat) from e_rv_pos h0]
  exact W.objInit hC.1 hC.2.1 hC.2.2.2.2.1 (hC.2.2.2.2.2.1 _ hl) (hC.2.2.2.2.2.1 _ h2) (hC.2.2.2.2.2.1 _ h3) rfl (by rw [hC.2.2.1]; exact hL.1) rfl hdg hr (by show 0 + 12 ≤ 128 * rm.1; omega) key
theorem e_ldc {idx : Nat} {z : Int32} {n : Int} (hdg : decode Y.2.1 pc = .ok (.ldc idx, 2)) (hw : Cond.constant Y.1.cls idx z ∈ e_gd) (hz : z = Int32.ofInt n) (hn : e_i32 n) (k : e_T sh Y rm (pc + 2) ls (.inl n :: st) g cs Q) : e_T sh Y rm pc ls st g cs Q := by
  intro p l e s m args below meth c D ad0 t0 ad H locs lsJ hC hE hI hL hls hst
  subst hz
  exact lv_ldc hC.1 hC.2.1 hC.2.2.2.2.1 (hC.2.2.2.2.2.1 _ hw) hdg (k p l e s m args below meth c D ad0 t0 ad H locs lsJ hC hE hI hL hls (e_ok_cons (v := .inl n) hn e_ni hst))
theorem e_ldcw {idx : Nat} {z : Int32} {n : Int} (hdg : decode Y.2.1 pc = .ok (.ldc_w idx, 3)) (hw : Cond.constant Y.1.cls idx z ∈ e_gd) (hz : z = Int32.ofInt n) (hn : e_i32 n) (k : e_T sh Y rm (pc + 3) ls (.inl n :: st) g cs Q) : e_T sh Y rm pc ls st g cs Q := by
  intro p l e s m args below meth c D ad0 t0 ad H locs lsJ hC hE hI hL hls hst
  subst hz
  exact lv_ldcw hC.1 hC.2.1 hC.2.2.2.2.1 (hC.2.2.2.2.2.1 _ hw) hdg (k p l e s m args below meth c D ad0 t0 ad H locs lsJ hC hE hI hL hls (e_ok_cons (v := .inl n) hn e_ni hst))
theorem e_ldc2 {idx : Nat} {z : Int64} {n : Int} (hdg : decode Y.2.1 pc = .ok (.ldc2_w idx, 3)) (hw : Cond.constantLong Y.1.cls idx z ∈ e_gd) (hz : z = Int64.ofInt n) (hn : e_i64 n) (k : e_T sh Y rm (pc + 3) ls (.inr (.inl n) :: st) g cs Q) : e_T sh Y rm pc ls st g cs Q := by
  intro p l e s m args below meth c D ad0 t0 ad H locs lsJ hC hE hI hL hls hst
  subst hz
  exact lv_ldc2 hC.1 hC.2.1 hC.2.2.2.2.1 (hC.2.2.2.2.2.1 _ hw) hdg (k p l e s m args below meth c D ad0 t0 ad H locs lsJ hC hE hI hL hls (e_ok_cons (v := .inr (.inl n)) hn e_nl hst))
/-- a static row, of the own class or of the nest's host -/
theorem e_gets {idx j : Nat} {q : String × String} (hdg : decode Y.2.1 pc = .ok (.getstatic idx, 3)) (hq : e_stat[j]? = some q) (hw : Cond.fieldLink Y.1.cls idx q.1 q.2 "[I" ∈ e_gd) (k : e_T sh Y rm (pc + 3) ls (.inr (.inr (.inl ((1000001 + j : Nat) : Int))) :: st) g cs Q) : e_T sh Y rm pc ls st g cs Q := by
  intro p l e s m args below meth c D ad0 t0 ad H locs lsJ hC hE hI hL hls hst
  have hj : j < 4 := (List.getElem?_eq_some_iff.mp hq).1
  obtain ⟨cf, kf, fi, f, a, cell, h1, h2, h3, h4, h5, h6, h7, h8⟩ := hI.2.2.2.2.2.1.1 j q hq
  have key := k p l e s m args below meth c D ad0 t0 ad H locs lsJ hC hE hI hL hls (e_ok_cons (v := .inr (.inr (.inl _))) (Or.inr ⟨by omega, Or.inr ⟨by omega, by omega⟩⟩) e_na hst)
  rw [List.map_cons, show e_vv ad (.inr (.inr (.inl ((1000001 + j : Nat) : Int)))) = .ref (ad (1000001 + j)) from by rw [show e_vv ad (.inr (.inr (.inl ((1000001 + j : Nat) : Int)))) = .ref (ad ((1000001 + j : Nat) : Int).toNat) from e_rv_pos (by omega), Int.toNat_natCast]] at key
  exact W.gets hC.1 hC.2.1 hC.2.2.2.2.1 (hC.2.2.2.2.2.1 _ hw) h1 h2 h3 h4 h5 (fun e => by rw [e] at h6; cases h6) h7 rfl hdg key
theorem e_getsN {idx j : Nat} {q : String × String} {host : String} (hdg : decode Y.2.1 pc = .ok (.getstatic idx, 3)) (hq : e_stat[j]? = some q) (hw : Cond.fieldLinkNest Y.1.cls idx q.1 q.2 "[I" host ∈ e_nest) (k : e_T sh Y rm (pc + 3) ls (.inr (.inr (.inl ((1000001 + j : Nat) : Int))) :: st) g cs Q) : e_T sh Y rm pc ls st g cs Q := by
  intro p l e s m args below meth c D ad0 t0 ad H locs lsJ hC hE hI hL hls hst
  have hj : j < 4 := (List.getElem?_eq_some_iff.mp hq).1
  obtain ⟨cf, kf, fi, f, a, cell, h1, h2, h3, h4, h5, h6, h7, h8⟩ := hI.2.2.2.2.2.1.1 j q hq
  have key := k p l e s m args below meth c D ad0 t0 ad H locs lsJ hC hE hI hL hls (e_ok_cons (v := .inr (.inr (.inl _))) (Or.inr ⟨by omega, Or.inr ⟨by omega, by omega⟩⟩) e_na hst)
  rw [List.map_cons, show e_vv ad (.inr (.inr (.inl ((1000001 + j : Nat) : Int)))) = .ref (ad (1000001 + j)) from by rw [show e_vv ad (.inr (.inr (.inl ((1000001 + j : Nat) : Int)))) = .ref (ad ((1000001 + j : Nat) : Int).toNat) from e_rv_pos (by omega), Int.toNat_natCast]] at key
  exact va_WgetsN hC.1 hC.2.1 hC.2.2.2.2.1 (va_Nw.use rfl (hE.2.1 _ hw)) h1 h2 h3 h4 h5 (fun e => by rw [e] at h6; cases h6) h7 rfl hdg key
end ALLOC
