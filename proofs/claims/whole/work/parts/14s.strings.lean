/-! final fields in a constructor; String constants: their length, their chars -/
section PUTF
variable {sh : Nat → Nat × Nat} {Y : e_Y} {rm : Nat × Nat × Nat} {pc : Nat} {ls st : List e_V} {g : e_G} {cs : Nat × Nat} {Q : Option e_V → e_G → Prop} {x y a i : Int}
theorem e_putF {idx kd k : Nat} {v : e_V} {n : Int} (hdg : decode Y.2.1 pc = .ok (.putfield idx, 3)) (hf : e_FL Y.1.cls idx kd k) (hfin : ∀ q, e_cl[kd]? = some q → (q.2.1 k).2.2.2 = true ∧ (q.2.1 k).1 = Y.1.cls) (hnm : Y.1.name = "<init>") (hv : v = e_val (e_tg kd k) n) (hz : e_tg kd k = 1 → n = 0 ∨ n = 1) (hz2 : ¬ e_tg kd k = 2) (h0 : 0 ≤ a) (h1 : a.toNat < 1000000) (hs : (sh a.toNat).1 = kd)
    (kk : e_T sh Y rm (pc + 3) ls st (e_up g.1 a.toNat k n, g.2) cs Q) : e_T sh Y rm pc ls (v :: .inr (.inr (.inl a)) :: st) g cs Q := by
  intro p l e s m args below meth c D ad0 t0 ad H locs lsJ hC hE hI hL hls hst
  obtain ⟨q, hq, hk, hlink, hlay⟩ := hf
  obtain ⟨hvo, hst2⟩ := e_ok_pop hst
  obtain ⟨ha, hs2⟩ := e_ok_pop hst2
  have hal := e_al_of ha h0
  have hkd := e_cl_lt hq
  have hR := hI.1
  obtain ⟨hn, cell, q1, q2, q3, q4⟩ := (hR.1 _ hal).obj (by rw [hs]; exact hkd) (by rw [hs]; exact e_cl_ne hq)
  rw [hs] at hn q2 q4
  have hn' := hn
  rw [hn, e_num_of hq] at q4
  obtain ⟨hS, hfc, kC, hkC, hkind⟩ := hE.1 kd _ hq
  obtain ⟨cf, kf, fi, f, hi, hsl⟩ := hS k hk
  have hso : e_so g.2 (e_tg kd k) n := by
    subst hv
    unfold e_val at hvo
    unfold e_so
    split
    · rename_i h3; rw [if_pos h3] at hvo; exact hvo
    · rename_i h3
      rw [if_neg h3] at hvo
      split
      · rename_i h4; rw [if_pos h4] at hvo; exact hvo
      · rename_i h4
        rw [if_neg h4] at hvo
        split
        · rename_i h5; exact hz h5
        · first
            | exact hvo
            | (rw [if_neg hz2]; exact hvo)
  obtain ⟨ty, hty, htt⟩ := hlay.2.1
  have hnf := e_nar (ad := ad) (ty := ty k) hso (htt k hk)
  have hlayk := hC.2.2.2.2.2.1 _ (hlay.1 _ (u_in_lay hk))
  unfold u_lay at hlayk
  rw [if_pos (hfin q hq).1] at hlayk
  have hst1 := (u_facts hfc hkC (u_lays hC.2.2.2.2.2.1 hlay.1 hk) hi).1
  have hcf : m.cls = cf := by
    obtain ⟨_, _, c', _, _, _, -, -, hf', -, -, -, hown2, -⟩ := Cond.laysFinal_spec hlayk
    have e1 : c' = cf := by have := hi.symm.trans hf'; simp at this; exact this.1.symm
    rw [(hfin q hq).2] at hown2
    rw [← e1]; exact Option.some.inj (hC.2.2.2.2.1.symm.trans hown2)
  have h6 := u_fits hfc hkC hkind (Or.inr hlayk) hi (hty k hk) hnf.1 hnf.2
  have hap : ∀ a b, a < q.2.2 → b < q.2.2 → a ≠ b → D.2 kd a ≠ D.2 kd b := by
    intro x y hx hy hne
    obtain ⟨_, _, _, fa, hia, ea⟩ := hS x hx
    obtain ⟨_, _, _, fb, hib, eb⟩ := hS y hy
    rw [← ea, ← eb]
    refine u_apart (u_lays hC.2.2.2.2.2.1 hlay.1 hx) (u_lays hC.2.2.2.2.2.1 hlay.1 hy) hia hib ?_
    rw [(State.fieldFound?_type hia (hty x hx)).1, (State.fieldFound?_type hib (hty y hy)).1]
    exact hlay.2.2 x hx y hy hne
  have ev : e_vv ad v = e_sv ad (e_tg kd k) n := by rw [hv, e_vv_val]
  rw [List.map_cons, List.map_cons, show e_vv ad (.inr (.inr (.inl a))) = .ref (ad a.toNat) from e_rv_pos h0, ev]
  refine W.putFinK hC.1 hC.2.1 hC.2.2.2.2.1 (hC.2.2.2.2.2.1 _ hlink) hi hst1 hcf (hC.2.2.2.2.2.2.2.1.trans hnm) (by rw [q2]; exact h6) q1 q3 (by rw [hsl]; exact k2_hasslot (q4 k hk)) rfl rfl hdg fun H1 e1 e2 e3 => ?_
  rw [hsl] at e1 ⊢
  refine kk p l e s m args below meth c D ad0 t0 ad H1 _ lsJ hC hE (hI.put hal h1 (fun _ => by rw [hs, if_pos hkd]; exact hso) ?_ e2 e3) hL hls hs2
  refine ⟨_, e1, Or.inl ⟨by rw [hs]; exact hkd, by rw [hs]; exact hn, by rw [hs]; exact q2, q3, ?_⟩⟩
  rw [hs, hn, e_num_of hq]
  intro j hj
  rw [t_set (V := fun j => e_sv ad (e_tg kd j) (g.1 a.toNat j)) q4 hap hk _ j hj, e_up_at]
  unfold updV
  by_cases hjk : j = k
  · rw [if_pos hjk, if_pos hjk, hjk]
  · rw [if_neg hjk, if_neg hjk]
end PUTF
section STR
variable {sh : Nat → Nat × Nat} {Y : e_Y} {rm : Nat × Nat × Nat} {pc : Nat} {ls st : List e_V} {g : e_G} {cs : Nat × Nat} {Q : Option e_V → e_G → Prop} {x y a : Int} {Yc : e_Y} {rc : Nat × Nat × Nat} {vs : List e_V} {idx n i : Nat}
theorem e_vrf {ad : Nat → Nat} {n : Nat} : e_vv ad (.inr (.inr (.inl ((n : Nat) : Int)))) = .ref (ad n) := by
  rw [show e_vv ad (.inr (.inr (.inl ((n : Nat) : Int)))) = .ref (ad ((n : Nat) : Int).toNat) from e_rv_pos (Int.natCast_nonneg n), Int.toNat_natCast]
theorem e_orf {t n : Nat} (h : e_al t n) : e_ok t (.inr (.inr (.inl ((n : Nat) : Int)))) := Or.inr ⟨Int.natCast_nonneg n, by rw [Int.toNat_natCast]; exact h⟩
theorem e_ldcS {tx : String} (hdg : decode Y.2.1 pc = .ok (.ldc idx, 2)) (hm : (Y.1.cls, idx, tx, i) ∈ e_strl) (hi : i < 29) (hs : sh (1000005 + i) = (15, i + 1)) (k : e_T sh Y rm (pc + 2) ls (.inr (.inr (.inl ((1000005 + i : Nat) : Int))) :: st) g cs Q) : e_T sh Y rm pc ls st g cs Q := by
  intro p l e s m args below meth c D ad0 t0 ad H locs lsJ hC hE hI hL hls hst
  have hv := hE.2.2.2.2.2 _ hm
  have hal : e_al g.2 (1000005 + i) := Or.inr ⟨by omega, by omega⟩
  obtain ⟨cell, -, h2⟩ := hI.1.1 (1000005 + i) hal
  rw [hs] at h2
  have e1 : ad (1000005 + i) = D.2 50 (i + 1) := by
    rcases h2 with h | h | h
    · exact absurd h.2.1 (by show ¬ i + 1 = e_num 15; rw [show e_num 15 = 0 from rfl]; omega)
    · exact absurd h.1 (by show ¬ 20 ≤ 15; decide)
    · exact h.2
  have key := k p l e s m args below meth c D ad0 t0 ad H locs lsJ hC hE hI hL hls (e_ok_cons (e_orf hal) e_na hst)
  rw [List.map_cons, e_vrf, e1] at key
  exact va_ldcS hC.1 hC.2.1 hC.2.2.2.2.1 hv hdg key
theorem e_getS (hdg : decode Y.2.1 pc = .ok (.getfield idx, 3)) (hl : Cond.fieldLink Y.1.cls idx "java/lang/String" "value" "[B" ∈ e_gd) (hi : i < 29) (k : e_T sh Y rm (pc + 3) ls (.inr (.inr (.inl ((1000034 + i : Nat) : Int))) :: st) g cs Q) : e_T sh Y rm pc ls (.inr (.inr (.inl ((1000005 + i : Nat) : Int))) :: st) g cs Q := by
  intro p l e s m args below meth c D ad0 t0 ad H locs lsJ hC hE hI hL hls hst
  obtain ⟨hx, hs2⟩ := e_ok_pop hst
  obtain ⟨cf, kf, fi, f, cell, h1, h2, h3, h4, h5, h6⟩ := (hI.2.2.2.2.2.2.2.2 i hi).2.2
  have key := k p l e s m args below meth c D ad0 t0 ad H locs lsJ hC hE hI hL hls (e_ok_cons (e_orf (Or.inr ⟨by omega, by omega⟩)) e_na hs2)
  rw [List.map_cons, e_vrf] at key ⊢
  exact W.getf hC.1 hC.2.1 hC.2.2.2.2.1 (hC.2.2.2.2.2.1 _ hl) h1 h2 h3 h4 (v := .ref (ad (1000034 + i))) h5 rfl rfl hdg key
theorem e_getC (hdg : decode Y.2.1 pc = .ok (.getfield idx, 3)) (hl : Cond.fieldLink Y.1.cls idx "java/lang/String" "coder" "B" ∈ e_gd) (hi : i < 29) (k : e_T sh Y rm (pc + 3) ls (.inl 0 :: st) g cs Q) : e_T sh Y rm pc ls (.inr (.inr (.inl ((1000005 + i : Nat) : Int))) :: st) g cs Q := by
  intro p l e s m args below meth c D ad0 t0 ad H locs lsJ hC hE hI hL hls hst
  obtain ⟨hx, hs2⟩ := e_ok_pop hst
  obtain ⟨cf, kf, fi, f, cell, h1, h2, h3, h4, h5, h6⟩ := (hI.2.2.2.2.2.2.2.2 i hi).2.1
  have key := k p l e s m args below meth c D ad0 t0 ad H locs lsJ hC hE hI hL hls (e_ok_cons (v := .inl 0) e_z32 e_ni hs2)
  rw [List.map_cons] at key ⊢
  rw [e_vrf]
  exact W.getf hC.1 hC.2.1 hC.2.2.2.2.1 (hC.2.2.2.2.2.1 _ hl) h1 h2 h3 h4 (v := .int 0) h5 rfl rfl hdg key
theorem e_getsZ (hdg : decode Y.2.1 pc = .ok (.getstatic idx, 3)) (hl : Cond.fieldLink Y.1.cls idx "java/lang/String" "COMPACT_STRINGS" "Z" ∈ e_gd) (k : e_T sh Y rm (pc + 3) ls (.inl 1 :: st) g cs Q) : e_T sh Y rm pc ls st g cs Q := by
  intro p l e s m args below meth c D ad0 t0 ad H locs lsJ hC hE hI hL hls hst
  obtain ⟨cf, kf, fi, f, a, cell, h1, h2, h3, h4, h5, h6, h7, h8⟩ := hI.2.2.2.2.2.2.1
  have key := k p l e s m args below meth c D ad0 t0 ad H locs lsJ hC hE hI hL hls (e_ok_cons (v := .inl 1) (⟨by decide, by decide⟩ : e_i32 1) e_ni hst)
  rw [List.map_cons] at key
  exact W.gets hC.1 hC.2.1 hC.2.2.2.2.1 (hC.2.2.2.2.2.1 _ hl) h1 h2 h3 h4 h5 (fun e => by rw [e] at h6; cases h6) h7 rfl hdg key
theorem e_nret {ty : FieldType} (hdg : decode Y.2.1 pc = .ok (.ireturn, 1)) (hr : Y.2.2.2 = some ty) (hn : narrow ty (.int (Int32.ofInt x)) = .int (Int32.ofInt x)) (h1 : cs.1 ≤ rm.2.1) (h2 : cs.2 ≤ rm.2.2) (hQ : Q (some (.inl x)) g) : e_T sh Y rm pc ls [.inl x] g cs Q := by
  intro p l e s m args below meth c D ad0 t0 ad H locs lsJ hC hE hI hL hls hst
  refine W.widen h1 h2 ?_
  exact vx_ret <| W.zret hC.1 hC.2.1 (hC.2.2.2.1.trans hr) hn (fun t ht hW => e_Qc_of (v := some (.inl x)) hI (fun w hw => by cases hw; exact hst _ List.mem_cons_self) hQ ht hW) hI.2.2.2.2.1.2.2 hdg hC.2.2.2.2.2.2.1
theorem e_i2c_ {b : Nat} (hb : b < 128) (hdg : decode Y.2.1 pc = .ok (.i2c, 1)) (k : e_T sh Y rm (pc + 1) ls (.inl (b : Int) :: st) g cs Q) : e_T sh Y rm pc ls (.inl (b : Int) :: st) g cs Q := by
  intro p l e s m args below meth c D ad0 t0 ad H locs lsJ hC hE hI hL hls hst
  have hv : ∀ b : Fin 128, ((Int32.ofInt (b.1 : Int)).toUInt32 % 65536).toInt32 = Int32.ofInt (b.1 : Int) := by decide +kernel
  exact lv_i2c hC.1 hC.2.1 hdg (hv ⟨b, hb⟩) (k p l e s m args below meth c D ad0 t0 ad H locs lsJ hC hE hI hL hls hst)
theorem e_recvS {D : va_G} {s : State} {ad0 : Nat → Nat} {t0 : Nat} {ad : Nat → Nat} {H : Heap} {locs : List Loc} (hI : e_I sh D s ad0 t0 ad g H locs) (hi : i < 29) (hia : a = ((1000005 + i : Nat) : Int)) (hcl : Yc.1.cls = "java/lang/String") : ∃ cell : Cell, H[ad a.toNat]? = some cell ∧ cell.vm.isStatics = false ∧ s.vm.findClass Yc.1.cls = some cell.cls := by
  obtain ⟨cell, h1, h2, h3, -⟩ := (hI.2.2.2.2.2.2.2.2 i hi).1
  subst hia
  rw [Int.toNat_natCast, hcl]
  exact ⟨cell, h1, h2, h3⟩
theorem e_callVS (hdg : decode Y.2.1 pc = .ok (.invokevirtual idx, 3)) (hw : e_MW Yc n) (hv : Cond.instanceMethod Yc.1 ∈ e_gd ∧ Cond.selects Yc.1.cls Yc.1 Yc.1 ∈ e_gd) (hcl : Yc.1.cls = "java/lang/String") (hl : Cond.methodLink Y.1.cls idx Yc.1 ∈ e_gd) (h0 : 0 ≤ a) (hi : i < 29) (hia : a = ((1000005 + i : Nat) : Int)) (hn : vs.length = n) (hm : (e_la (.inr (.inr (.inl a)) :: vs)).length ≤ Yc.2.2.1 ∧ Yc.2.2.1 ≤ 100) (hr : rc.1 + 1 ≤ rm.1) (h1 : cs.1 + rc.2.1 ≤ rm.2.1) (h2 : cs.2 + rc.2.2 ≤ rm.2.2) (hc : e_cat st ≤ 8)
    (k : e_T sh Yc rc 0 (e_loc Yc.2.2.1 (.inr (.inr (.inl a)) :: vs)) [] g (0, 0) (e_bk sh Y rm (pc + 3) ls st g.2 (cs.1 + rc.2.1, cs.2 + rc.2.2) Q)) : e_T sh Y rm pc ls (vs.reverse ++ .inr (.inr (.inl a)) :: st) g cs Q := by
  intro p l e s m args below meth c D ad0 t0 ad H locs lsJ hC hE hI hL hls hst
  obtain ⟨hv1, hst1⟩ := e_ok_args hst
  obtain ⟨ha, hst2⟩ := e_ok_pop hst1
  have hav : ∀ w ∈ (.inr (.inr (.inl a)) : e_V) :: vs, e_ok g.2 w ∧ w ≠ .inr (.inr (.inr ())) := e_ok_cons ha e_na hv1
  have ea : e_vv ad (.inr (.inr (.inl a))) = .ref (ad a.toNat) := e_rv_pos h0
  refine e_after hC hE hI hL hls hst2 (aa := (Value.ref (ad a.toNat) :: vs.map (e_vv ad)).toArray) (mc := rc.2.1) (ms := rc.2.2) ?_
  refine va_runV ⟨hC.1, hC.2.1, hC.2.2.1, hC.2.2.2.2.1, hC.2.2.2.2.2.1⟩ (e_Met l hC.2.2.2.2.2.2.2.2.1 (fun _ h => h.1 rfl) D ad H.size hw.2.2.1 hav hm.1 k)
    ⟨callB_of n hC.2.2.2.2.2.1 (e_goodIn hw.1) rfl rfl rfl (hC.2.2.2.2.2.1 _ hw.2.1) (hC.2.2.2.2.2.1 _ hl) ⟨hw.2.2.2.1.1, hw.2.2.2.1.2, hw.2.2.2.2⟩ (e_roomR hr hm.2), hC.2.2.2.2.2.1 _ hv.1, hC.2.2.2.2.2.1 _ hv.2⟩
    ⟨e_Pc_blind, e_recvS hI hi hia hcl, fun U hU hW => ⟨by rw [List.map_cons, ea], by rw [hU], hE.warm hW, by rw [hU]; exact hI.1.moved hW.alike, by rw [hU]; exact hI.2.2.2.2.2.moved hW.alike⟩⟩ rfl (by rw [List.length_map]; exact hn) hL.1 ?_ ?_ hdg ⟨h1, h2⟩
  · show _ = _ ++ _
    rw [List.map_append, List.map_reverse, List.map_cons, ea]
  · have := e_cat_le (ad := ad) (st := st)
    show 0 + _ ≤ 8
    omega
theorem s_coder (hi : i < 29) (hQ : Q (some (.inl 0)) g) : e_T sh YJ0_coder_7d493 rc 0 [.inr (.inr (.inl ((1000005 + i : Nat) : Int)))] [] g (0, 0) Q :=
  e_getsZ (e_dx DJ0_coder_7d493_0 0 rfl) gJ0_38 (e_if_eq (tgt := 13) (e_dx DJ0_coder_7d493_0 1 rfl) rfl (fun h => absurd h (by decide)) fun _ =>
    e_aload_n (n := 0) (e_dx DJ0_coder_7d493_0 2 rfl) rfl (Int.natCast_nonneg _) (e_getC (e_dx DJ0_coder_7d493_0 3 rfl) gJ0_15 hi (e_goto (tgt := 14) (e_dx DJ0_coder_7d493_0 4 rfl) rfl (e_nret (e_dx DJ0_coder_7d493_0 6 rfl) rfl rfl (Nat.zero_le _) (Nat.zero_le _) hQ))))
theorem s_isLatin1 (hi : i < 29) (hQ : Q (some (.inl 1)) g) : e_T sh YJ0_isLatin1_aae02 rc 0 [.inr (.inr (.inl ((1000005 + i : Nat) : Int)))] [] g (0, 0) Q :=
  e_getsZ (e_dx DJ0_isLatin1_aae02_0 0 rfl) gJ0_38 (e_if_eq (tgt := 17) (e_dx DJ0_isLatin1_aae02_0 1 rfl) rfl (fun h => absurd h (by decide)) fun _ =>
    e_aload_n (n := 0) (e_dx DJ0_isLatin1_aae02_0 2 rfl) rfl (Int.natCast_nonneg _) (e_getC (e_dx DJ0_isLatin1_aae02_0 3 rfl) gJ0_15 hi (e_if_ne (tgt := 17) (e_dx DJ0_isLatin1_aae02_0 4 rfl) rfl (fun h => absurd rfl h) fun _ =>
      e_iconst (e_dx DJ0_isLatin1_aae02_0 5 rfl) ⟨by decide, by decide⟩ (e_goto (tgt := 18) (e_dx DJ0_isLatin1_aae02_0 6 rfl) rfl (e_zret (e_dx DJ0_isLatin1_aae02_0 8 rfl) rfl (Or.inr rfl) (Nat.zero_le _) (Nat.zero_le _) hQ)))))
theorem s_len (hi : i < 29) (hs : (sh (1000034 + i)).1 = 22) (hz : (sh (1000034 + i)).2 < 2147483648) (hr : 1 ≤ rc.1) (hQ : Q (some (.inl ((sh (1000034 + i)).2 : Int))) g) : e_T sh YJ0_length_8abf5 rc 0 [.inr (.inr (.inl ((1000005 + i : Nat) : Int)))] [] g (0, 0) Q :=
  e_aload_n (n := 0) (e_dx DJ0_length_8abf5_0 0 rfl) rfl (Int.natCast_nonneg _) (e_getS (e_dx DJ0_length_8abf5_0 1 rfl) gJ0_9 hi (e_alen (a := ((1000034 + i : Nat) : Int)) (kd := 22) (e_dx DJ0_length_8abf5_0 2 rfl) (Int.natCast_nonneg _) (by rw [Int.toNat_natCast]; exact hs) (by decide) (by rw [Int.toNat_natCast]; exact hz) (by
    rw [Int.toNat_natCast]
    refine e_aload_n (n := 0) (e_dx DJ0_length_8abf5_0 3 rfl) rfl (Int.natCast_nonneg _) ?_
    refine e_callVS (rc := (rc.1 - 1, 0, 0)) (vs := []) (a := ((1000005 + i : Nat) : Int)) (e_dx DJ0_length_8abf5_0 4 rfl) mwJ0_coder_7d493 vsJ0_coder_7d493 rfl cJ0_335 (Int.natCast_nonneg _) hi rfl rfl ⟨Nat.le_of_ble_eq_true rfl, Nat.le_of_ble_eq_true rfl⟩ (by show rc.1 - 1 + 1 ≤ rc.1; omega) (Nat.zero_le _) (Nat.zero_le _) (Nat.le_of_ble_eq_true rfl) (s_coder hi ⟨(fun h => by cases h), fun _ => ?_⟩)
    refine e_ishr (e_dx DJ0_length_8abf5_0 5 rfl) ?_
    have e1 : (Int32.ofInt (((sh (1000034 + i)).2 : Nat) : Int) >>> (Int32.ofInt 0 &&& 31)).toInt = (((sh (1000034 + i)).2 : Nat) : Int) := by
      rw [show (Int32.ofInt 0 &&& 31) = 0 from rfl, Int32.shiftRight_zero]
      exact e_t32 ⟨by omega, by omega⟩
    rw [e1]
    exact e_iret (e_dx DJ0_length_8abf5_0 6 rfl) rfl (Nat.zero_le _) (Nat.zero_le _) hQ)))
theorem e_PX_blind {sh : Nat → Nat × Nat} {D : va_G} {ad : Nat → Nat} {g : e_G} {sz : Nat} {As : List Value} : FrameBlind (va_Pc As (fun U => U.heap.size = sz ∧ e_Env D U ∧ e_Rep sh D U ad g U.heap ∧ e_Old ad (e_W ad g.2) U U.heap)) := by
  intro a U f mk q
  obtain ⟨h1, h2, h3, h4, h5⟩ := q
  have hal : U.vm.Alike (U.calling f mk a).vm := Vm.Alike.refl U.vm
  refine ⟨h1, h2, ⟨h3.1.moved hal, fun w hw => ?_, h3.2.2.1.moved hal, h3.2.2.2.1.moved hal, h3.2.2.2.2.1.moved hal, fun q hq => vk_R.same (u := U) rfl (h3.2.2.2.2.2 q hq)⟩, h4.moved hal, h5.moved hal⟩
  have h9 := h3.2.1 w hw
  have hn := (List.mem_filter.mp hw).2
  cases w <;> first | exact va_Nw.same (u := U) rfl rfl h9 | (exact absurd hn (by simp [e_isN]))
theorem e_MetX {sh : Nat → Nat × Nat} {Y : e_Y} {rm : Nat × Nat × Nat} {g : e_G} {Q : Option e_V → e_G → Prop} {As : List Value} {lsX : List e_V} (l : Launch) (hl : l.stackTraces = false) (hno : ∀ g, ¬ Q (some (.inr (.inr (.inr ())))) g) (D : va_G) (ad : Nat → Nat) (sz : Nat) (hp : plainName Y.1.cls = true) (hn : (lg_sl As).length ≤ Y.2.2.1) (hL0 : ∀ lsJ, lv_has lsJ Y.2.2.1 (lv_args 0 As) → e_L ad Y.2.2.1 lsX lsJ) (hok : ∀ v ∈ lsX, e_ok g.2 v)
    (h : e_T sh Y rm 0 lsX [] g (0, 0) Q) : Met l Y.1 (e_ws Y) (e_rm rm) (va_Pc As (fun U => U.heap.size = sz ∧ e_Env D U ∧ e_Rep sh D U ad g U.heap ∧ e_Old ad (e_W ad g.2) U U.heap)) (e_Qc sh D ad g.2 Q) rm.2.1 rm.2.2 (e_A ad g.2 sz) := by
  refine Met.ofW (cc := Y.2.1) (maxL := Y.2.2.1) (ret := Y.2.2.2) hp rfl ?_
  intro p e s m args below meth c s₁ B hml hv
  obtain ⟨rfl, hsz, hE, hR, hO⟩ := hv
  subst hsz
  have hts := atoms_spec (ws := e_ws Y) B.pre
  have hin : meth.name = Y.1.name := (name_of_methodNamed B.named B.method).1
  have htb : e_Tb c Y := by
    refine ⟨fun _ => ?_, fun hh hw => vx_table (x := Y.1) B (hts _ (List.mem_cons_of_mem _ hw))⟩
    obtain ⟨meth9, c9, h1, h2, -, -, -, -, h7, -⟩ := Cond.code_spec B.named (hts _ List.mem_cons_self)
    cases Option.some.inj (h1.symm.trans B.method)
    cases Option.some.inj (h2.symm.trans (Stand.of_body B).code)
    intro x hx
    rw [Array.isEmpty_iff.mp h7] at hx
    cases hx
  have hC : e_Cx p l s m As.toArray meth c Y := ⟨B.exec, B.bytes, hml, B.returns, findClass_of_methodNamed B.named, fun w hw => hts w (List.mem_cons_of_mem _ hw), B.notSynchronized, hin, hl, htb⟩
  have hlv := lv_entry As (n := Y.2.2.1) hn
  rw [lg_entry_eq]
  generalize (lg_sl As ++ List.replicate (Y.2.2.1 - (lg_sl As).length) Slot.unset).toArray = lsJ at hlv ⊢
  exact e_noX hno <| h p l e s m _ below meth c D ad g.2 ad s.heap [] lsJ hC hE ⟨hR, fun _ _ => rfl, Nat.le_refl _, fun a h1 h2 => by omega, va_S.rf, hO⟩ (hL0 lsJ hlv) hok (fun v hv => by cases hv)
/-- the bounds are looked at, with a reference that nobody asks -/
theorem e_ckx (hx : 0 ≤ x ∧ x < y) (hr : 1 ≤ rm.1) (h1 : cs.1 ≤ rm.2.1) (h2 : cs.2 ≤ rm.2.2) (k : e_T sh YJ0_checkIndex_df160 rm 8 ls [.inl x] g cs Q) : e_T sh YJ0_checkIndex_df160 rm 2 ls [.inl y, .inl x] g cs Q := by
  intro p l e s m args below meth c D ad0 t0 ad H locs lsJ hC hE hI hL hls hst
  obtain ⟨v, ⟨cf, kf, fi, f, a, cell, g1, g2, g3, g4, g5, g6, g7, g8⟩, hv⟩ := hI.2.2.2.2.2.2.2.1
  obtain ⟨hy, hst2⟩ := e_ok_pop hst
  obtain ⟨hxo, hst3⟩ := e_ok_pop hst2
  have hcv : v.category = 1 := by rcases hv with rfl | ⟨r, rfl⟩ <;> rfl
  refine W.gets hC.1 hC.2.1 hC.2.2.2.2.1 (hC.2.2.2.2.2.1 _ gJ0_1053) g1 g2 g3 g4 g5 (fun e => by rw [e] at g6; cases g6) g7 rfl (e_dx DJ0_checkIndex_df160_0 2 rfl) ?_
  refine e_after (Q := Q) (cs := cs) (pc := 5) (st := []) hC hE hI hL hls (fun w hw => by cases hw) (aa := #[.int (Int32.ofInt x), .int (Int32.ofInt y), v]) (mc := 0) (ms := 0) ?_
  refine va_runS ⟨hC.1, hC.2.1, hC.2.2.1, hC.2.2.2.2.1, hC.2.2.2.2.2.1⟩ (e_MetX (Y := YJ3_checkIndex_8e157) (rm := (rm.1 - 1, 0, 0)) (As := [.int (Int32.ofInt x), .int (Int32.ofInt y), v]) (lsX := [.inl x, .inl y, .inr (.inr (.inr ()))]) l hC.2.2.2.2.2.2.2.2.1 (fun _ h => h.1 rfl) D ad H.size (by decide) (by
      unfold lg_sl
      rcases hv with rfl | ⟨r, rfl⟩ <;> exact Nat.le_of_ble_eq_true rfl) (fun lsJ hj => ?_) (fun w hw => ?_) ?_)
    ⟨callB_of 3 hC.2.2.2.2.2.1 (e_goodIn mwJ3_checkIndex_8e157.1) rfl rfl rfl (hC.2.2.2.2.2.1 _ mwJ3_checkIndex_8e157.2.1) (hC.2.2.2.2.2.1 _ cJ0_1059) ⟨mwJ3_checkIndex_8e157.2.2.2.1.1, mwJ3_checkIndex_8e157.2.2.2.1.2, mwJ3_checkIndex_8e157.2.2.2.2⟩ (e_roomR (rc := (rm.1 - 1, 0, 0)) (Yc := YJ3_checkIndex_8e157) (by show rm.1 - 1 + 1 ≤ rm.1; omega) (by decide)), hC.2.2.2.2.2.1 _ swJ3_checkIndex_8e157⟩
    ⟨e_PX_blind, fun U hU hW => ⟨rfl, by rw [hU], hE.warm hW, by rw [hU]; exact hI.1.moved hW.alike, by rw [hU]; exact hI.2.2.2.2.2.moved hW.alike⟩⟩ rfl rfl hL.1 rfl ?_ (e_dx DJ0_checkIndex_df160_0 3 rfl) ⟨h1, h2⟩
  · refine ⟨hj.1, hj.2.1, fun q hq => ?_⟩
    obtain ⟨j, w, hw, hu, rfl⟩ := (e_pr_mem _ 0 q).mp hq
    rw [Nat.zero_add]
    match j, hw with
    | 0, hw => obtain rfl := Option.some.inj hw; exact hj.2.2 (0, .int (Int32.ofInt x)) List.mem_cons_self
    | 1, hw => obtain rfl := Option.some.inj hw; exact hj.2.2 (1, .int (Int32.ofInt y)) (List.mem_cons_of_mem _ List.mem_cons_self)
    | 2, hw => obtain rfl := Option.some.inj hw; exact absurd rfl hu
  · rcases List.mem_cons.mp hw with rfl | hw
    · exact hxo
    · rcases List.mem_cons.mp hw with rfl | hw
      · exact hy
      · rcases List.mem_cons.mp hw with rfl | hw
        · trivial
        · cases hw
  · refine e_iload_n (n := 0) (e_dx DJ3_checkIndex_8e157_0 0 rfl) rfl (e_if_lt (tgt := 9) (e_dx DJ3_checkIndex_8e157_0 1 rfl) rfl (fun h => absurd h (by omega)) fun _ => ?_)
    refine e_iload_n (n := 0) (e_dx DJ3_checkIndex_8e157_0 2 rfl) rfl (e_iload_n (n := 1) (e_dx DJ3_checkIndex_8e157_0 3 rfl) rfl (e_icmp_lt (tgt := 16) (e_dx DJ3_checkIndex_8e157_0 4 rfl) rfl (fun _ => ?_) fun h => absurd h (by omega)))
    refine e_iload_n (n := 0) (e_dx DJ3_checkIndex_8e157_0 10 rfl) rfl (e_iret (e_dx DJ3_checkIndex_8e157_0 11 rfl) rfl (Nat.zero_le _) (Nat.zero_le _) ?_)
    exact ⟨(fun h => by cases h), fun _ => k⟩
  · exact Nat.le_of_ble_eq_true rfl
theorem s_ck (hx : 0 ≤ x ∧ x < y) (hr : 1 ≤ rc.1) (hQ : Q none g) : e_T sh YJ0_checkIndex_df160 rc 0 [.inl x, .inl y] [] g (0, 0) Q :=
  e_iload_n (n := 0) (e_dx DJ0_checkIndex_df160_0 0 rfl) rfl (e_iload_n (n := 1) (e_dx DJ0_checkIndex_df160_0 1 rfl) rfl (e_ckx hx hr (Nat.zero_le _) (Nat.zero_le _) (e_pop (e_dx DJ0_checkIndex_df160_0 4 rfl) (fun _ h => by cases h) (e_vret (e_dx DJ0_checkIndex_df160_0 5 rfl) rfl (Nat.zero_le _) (Nat.zero_le _) hQ))))
theorem s_and : ∀ b : Fin 128, (Int32.ofInt (b.1 : Int) &&& Int32.ofInt 255).toInt = (b.1 : Int) := by decide +kernel
theorem s_nar : ∀ b : Fin 128, narrow .char (.int (Int32.ofInt (b.1 : Int))) = .int (Int32.ofInt (b.1 : Int)) := by decide +kernel
theorem s_lat {k b : Nat} (hs : (sh (1000034 + i)).1 = 22) (hk : k < (sh (1000034 + i)).2) (hz : (sh (1000034 + i)).2 < 2147483648) (hb : g.1 (1000034 + i) k = (b : Int)) (hb2 : b < 128) (hr : 2 ≤ rc.1) (hQ : Q (some (.inl (b : Int))) g) : e_T sh YJ1_charAt_3b067 rc 0 [.inr (.inr (.inl ((1000034 + i : Nat) : Int))), .inl (k : Int)] [] g (0, 0) Q := by
  refine e_iload_n (n := 1) (e_dx DJ1_charAt_3b067_0 0 rfl) rfl (e_aload_n (n := 0) (e_dx DJ1_charAt_3b067_0 1 rfl) rfl (Int.natCast_nonneg _) (e_alen (a := ((1000034 + i : Nat) : Int)) (kd := 22) (e_dx DJ1_charAt_3b067_0 2 rfl) (Int.natCast_nonneg _) (by rw [Int.toNat_natCast]; exact hs) (by decide) (by rw [Int.toNat_natCast]; exact hz) ?_))
  rw [Int.toNat_natCast]
  refine e_callS (rc := (rc.1 - 1, 0, 0)) (vs := [.inl (k : Int), .inl (((sh (1000034 + i)).2 : Nat) : Int)]) (st := []) (e_dx DJ1_charAt_3b067_0 3 rfl) mwJ0_checkIndex_df160 cJ1_9 swJ0_checkIndex_df160 rfl ⟨Nat.le_of_ble_eq_true rfl, Nat.le_of_ble_eq_true rfl⟩ (by show rc.1 - 1 + 1 ≤ rc.1; omega) (Nat.zero_le _) (Nat.zero_le _) (Nat.le_of_ble_eq_true rfl) (s_ck ⟨by omega, by omega⟩ (by show 1 ≤ rc.1 - 1; omega) ⟨(fun h => by cases h), fun _ => ?_⟩)
  refine e_aload_n (n := 0) (e_dx DJ1_charAt_3b067_0 4 rfl) rfl (Int.natCast_nonneg _) (e_iload_n (n := 1) (e_dx DJ1_charAt_3b067_0 5 rfl) rfl (e_bald (a := ((1000034 + i : Nat) : Int)) (e_dx DJ1_charAt_3b067_0 6 rfl) (Int.natCast_nonneg _) (by rw [Int.toNat_natCast]; exact hs) ⟨by omega, by rw [Int.toNat_natCast]; omega⟩ ?_))
  rw [Int.toNat_natCast, Int.toNat_natCast, hb]
  refine e_sipush (e_dx DJ1_charAt_3b067_0 7 rfl) ⟨by decide, by decide⟩ (e_iand (e_dx DJ1_charAt_3b067_0 8 rfl) ?_)
  rw [s_and ⟨b, hb2⟩]
  exact e_i2c_ hb2 (e_dx DJ1_charAt_3b067_0 9 rfl) (e_nret (e_dx DJ1_charAt_3b067_0 10 rfl) rfl (s_nar ⟨b, hb2⟩) (Nat.zero_le _) (Nat.zero_le _) hQ)
theorem s_char {k b : Nat} (hi : i < 29) (hs : (sh (1000034 + i)).1 = 22) (hk : k < (sh (1000034 + i)).2) (hz : (sh (1000034 + i)).2 < 2147483648) (hb : g.1 (1000034 + i) k = (b : Int)) (hb2 : b < 128) (hr : 3 ≤ rc.1) (hQ : Q (some (.inl (b : Int))) g) : e_T sh YJ0_charAt_5068e rc 0 [.inr (.inr (.inl ((1000005 + i : Nat) : Int))), .inl (k : Int)] [] g (0, 0) Q := by
  refine e_aload_n (n := 0) (e_dx DJ0_charAt_5068e_0 0 rfl) rfl (Int.natCast_nonneg _) ?_
  refine e_callVS (rc := (rc.1 - 1, 0, 0)) (vs := []) (st := []) (a := ((1000005 + i : Nat) : Int)) (e_dx DJ0_charAt_5068e_0 1 rfl) mwJ0_isLatin1_aae02 vsJ0_isLatin1_aae02 rfl cJ0_492 (Int.natCast_nonneg _) hi rfl rfl ⟨Nat.le_of_ble_eq_true rfl, Nat.le_of_ble_eq_true rfl⟩ (by show rc.1 - 1 + 1 ≤ rc.1; omega) (Nat.zero_le _) (Nat.zero_le _) (Nat.le_of_ble_eq_true rfl) (s_isLatin1 hi ⟨(fun h => by cases h), fun _ => ?_⟩)
  refine e_if_eq (tgt := 16) (e_dx DJ0_charAt_5068e_0 2 rfl) rfl (fun h => absurd h (by decide)) fun _ => ?_
  refine e_aload_n (n := 0) (e_dx DJ0_charAt_5068e_0 3 rfl) rfl (Int.natCast_nonneg _) (e_getS (e_dx DJ0_charAt_5068e_0 4 rfl) gJ0_9 hi (e_iload_n (n := 1) (e_dx DJ0_charAt_5068e_0 5 rfl) rfl ?_))
  refine e_callS (rc := (rc.1 - 1, 0, 0)) (vs := [.inr (.inr (.inl ((1000034 + i : Nat) : Int))), .inl (k : Int)]) (st := []) (e_dx DJ0_charAt_5068e_0 6 rfl) mwJ1_charAt_3b067 cJ0_495 swJ1_charAt_3b067 rfl ⟨Nat.le_of_ble_eq_true rfl, Nat.le_of_ble_eq_true rfl⟩ (by show rc.1 - 1 + 1 ≤ rc.1; omega) (Nat.zero_le _) (Nat.zero_le _) (Nat.le_of_ble_eq_true rfl) (s_lat hs hk hz hb hb2 (by show 2 ≤ rc.1 - 1; omega) ⟨(fun h => by cases h), fun _ => ?_⟩)
  exact e_nret (e_dx DJ0_charAt_5068e_0 7 rfl) rfl (s_nar ⟨b, hb2⟩) (Nat.zero_le _) (Nat.zero_le _) hQ
theorem e_slength (hdg : decode Y.2.1 pc = .ok (.invokevirtual idx, 3)) (hl : Cond.methodLink Y.1.cls idx YJ0_length_8abf5.1 ∈ e_gd) (hi : i < 29) (hs : (sh (1000034 + i)).1 = 22) (hz : (sh (1000034 + i)).2 < 2147483648) (hr : 4 ≤ rm.1) (h1 : cs.1 ≤ rm.2.1) (h2 : cs.2 ≤ rm.2.2) (hc : e_cat st ≤ 8)
    (k : e_T sh Y rm (pc + 3) ls (.inl (((sh (1000034 + i)).2 : Nat) : Int) :: st) g cs Q) : e_T sh Y rm pc ls (.inr (.inr (.inl ((1000005 + i : Nat) : Int))) :: st) g cs Q :=
  e_callVS (rc := (3, 0, 0)) (vs := []) (a := ((1000005 + i : Nat) : Int)) hdg mwJ0_length_8abf5 vsJ0_length_8abf5 rfl hl (Int.natCast_nonneg _) hi rfl rfl ⟨Nat.le_of_ble_eq_true rfl, Nat.le_of_ble_eq_true rfl⟩ hr h1 h2 hc (s_len hi hs hz (by decide) ⟨(fun h => by cases h), fun _ => k⟩)
theorem e_scharAt {k b : Nat} (hdg : decode Y.2.1 pc = .ok (.invokevirtual idx, 3)) (hl : Cond.methodLink Y.1.cls idx YJ0_charAt_5068e.1 ∈ e_gd) (hi : i < 29) (hs : (sh (1000034 + i)).1 = 22) (hk : k < (sh (1000034 + i)).2) (hz : (sh (1000034 + i)).2 < 2147483648) (hb : g.1 (1000034 + i) k = (b : Int)) (hb2 : b < 128) (hr : 4 ≤ rm.1) (h1 : cs.1 ≤ rm.2.1) (h2 : cs.2 ≤ rm.2.2) (hc : e_cat st ≤ 8)
    (kk : e_T sh Y rm (pc + 3) ls (.inl (b : Int) :: st) g cs Q) : e_T sh Y rm pc ls (.inl (k : Int) :: .inr (.inr (.inl ((1000005 + i : Nat) : Int))) :: st) g cs Q :=
  e_callVS (rc := (3, 0, 0)) (vs := [.inl (k : Int)]) (a := ((1000005 + i : Nat) : Int)) hdg mwJ0_charAt_5068e vsJ0_charAt_5068e rfl hl (Int.natCast_nonneg _) hi rfl rfl ⟨Nat.le_of_ble_eq_true rfl, Nat.le_of_ble_eq_true rfl⟩ hr h1 h2 hc (s_char hi hs hk hz hb hb2 (by decide) ⟨(fun h => by cases h), fun _ => kk⟩)
end STR
