/-! the law's loop: from a case's begin to its end, out of what both sides answer -/
def lw_S (sh : Nat → Nat × Nat) (L : Nat) : Prop := sh 1000000 = (20, L) ∧ (sh 0).1 = 11 ∧ (sh 4456).1 = 12 ∧ sh 4533 = (23, 1) ∧ L ≤ 3072
def lw_L (i : Nat) (ls : List e_V) : Prop := ls.length = 8 ∧ ls[0]? = some (.inr (.inr (.inl 1000000))) ∧ ls[1]? = some (.inr (.inr (.inl 0))) ∧ ls[2]? = some (.inr (.inr (.inl 4456))) ∧ ls[3]? = some (.inr (.inr (.inl 4533))) ∧ ls[4]? = some (.inl (i : Int))
theorem lw_cmp {x : Int} : e_cmp x x = 0 := by
  unfold e_cmp
  rw [if_neg (Int.lt_irrefl x), if_pos rfl]
section LAW
variable {sh : Nat → Nat × Nat} {rm : Nat × Nat × Nat} {g : e_G} {cs : Nat × Nat} {Q : Option e_V → e_G → Prop} {i L : Nat}
theorem lw_ld {ls st : List e_V} {pc c : Nat} {n : Int} (d1 : decode YL_law.2.1 pc = .ok (.aload_n 0, 1)) (d2 : decode YL_law.2.1 (pc + 1) = .ok (.iload 4, 2)) (d3 : decode YL_law.2.1 (pc + 3) = .ok (.iconst n, 1)) (d4 : decode YL_law.2.1 (pc + 4) = .ok (.iadd, 1)) (d5 : decode YL_law.2.1 (pc + 5) = .ok (.iaload, 1)) (hS : lw_S sh L) (hl : lw_L i ls) (hn : n = (c : Int)) (hc : i + c < L)
    (k : e_T sh YL_law rm (pc + 6) ls (.inl (g.1 1000000 (i + c)) :: st) g cs Q) : e_T sh YL_law rm pc ls st g cs Q := by
  obtain ⟨l1, l2, l3, l4, l5, l6⟩ := hl
  obtain ⟨z1, z2, z3, z4, z5⟩ := hS
  subst hn
  refine e_aload_n (n := 0) d1 l2 (by decide) (e_iload d2 l6 (e_iconst d3 ⟨by omega, by omega⟩ (e_iadd d4 ?_)))
  rw [show e_w32 ((i : Int) + (c : Int)) = ((i + c : Nat) : Int) from by rw [e_w32_id ⟨by omega, by omega⟩]; omega]
  refine e_iald (a := 1000000) (i := ((i + c : Nat) : Int)) d5 (by decide) (by show (sh 1000000).1 = 20; rw [z1]) ⟨by omega, by show ((i + c : Nat) : Int) < ((sh 1000000).2 : Int); rw [z1]; show ((i + c : Nat) : Int) < (L : Int); omega⟩ ?_
  exact k
/-- feed -/
theorem law_feed {ls : List e_V} {r1 r2 : Nat × Nat × Nat} (hS : lw_S sh L) (hl : lw_L i ls) (hi : i + 6 ≤ L) (q1 : r1.1 + 1 ≤ rm.1) (q2 : cs.1 + r1.2.1 ≤ rm.2.1) (q3 : cs.2 + r1.2.2 ≤ rm.2.2) (p1 : r2.1 + 1 ≤ rm.1) (p2 : cs.1 + r1.2.1 + r2.2.1 ≤ rm.2.1) (p3 : cs.2 + r1.2.2 + r2.2.2 ≤ rm.2.2)
    (h : e_T sh YX11_feed r1 0 (e_loc 6 [.inr (.inr (.inl 0)), .inl (g.1 1000000 (i + 1)), .inl (g.1 1000000 (i + 2)), .inl (g.1 1000000 (i + 3)), .inl (g.1 1000000 (i + 4)), .inl (g.1 1000000 (i + 5))]) [] g (0, 0) (fun v g1 => ∃ x : Int, v = some (.inl x) ∧ (g.2 ≤ g1.2 → e_T sh YX12_feed r2 0 (e_loc 6 [.inr (.inr (.inl 4456)), .inl (g1.1 1000000 (i + 1)), .inl (g1.1 1000000 (i + 2)), .inl (g1.1 1000000 (i + 3)), .inl (g1.1 1000000 (i + 4)), .inl (g1.1 1000000 (i + 5))]) [] g1 (0, 0) (fun w g2 => w = some (.inl x) ∧ (g1.2 ≤ g2.2 → e_T sh YL_law rm 830 ls [] g2 (cs.1 + r1.2.1 + r2.2.1, cs.2 + r1.2.2 + r2.2.2) Q))))) : e_T sh YL_law rm 128 ls [] g cs Q := by
  obtain ⟨l1, l2, l3, l4, l5, l6⟩ := id hl
  obtain ⟨z1, z2, z3, z4, z5⟩ := id hS
  refine e_aload_n (pc := 128) (n := 1) (e_dx DL_law_0 25 rfl) l3 (by decide) ?_
  refine lw_ld (pc := 129) (c := 1) (e_dx DL_law_0 26 rfl) (e_dx DL_law_0 27 rfl) (e_dx DL_law_0 28 rfl) (e_dx DL_law_0 29 rfl) (e_dx DL_law_0 30 rfl) hS hl rfl (by omega) ?_
  refine lw_ld (pc := 135) (c := 2) (e_dx DL_law_0 31 rfl) (e_dx DL_law_0 32 rfl) (e_dx DL_law_0 33 rfl) (e_dx DL_law_0 34 rfl) (e_dx DL_law_0 35 rfl) hS hl rfl (by omega) ?_
  refine lw_ld (pc := 141) (c := 3) (e_dx DL_law_0 36 rfl) (e_dx DL_law_0 37 rfl) (e_dx DL_law_0 38 rfl) (e_dx DL_law_0 39 rfl) (e_dx DL_law_1 0 rfl) hS hl rfl (by omega) ?_
  refine lw_ld (pc := 147) (c := 4) (e_dx DL_law_1 1 rfl) (e_dx DL_law_1 2 rfl) (e_dx DL_law_1 3 rfl) (e_dx DL_law_1 4 rfl) (e_dx DL_law_1 5 rfl) hS hl rfl (by omega) ?_
  refine lw_ld (pc := 153) (c := 5) (e_dx DL_law_1 6 rfl) (e_dx DL_law_1 7 rfl) (e_dx DL_law_1 8 rfl) (e_dx DL_law_1 9 rfl) (e_dx DL_law_1 10 rfl) hS hl rfl (by omega) ?_
  show e_T sh YL_law rm 159 ls ([.inl (g.1 1000000 (i + 1)), .inl (g.1 1000000 (i + 2)), .inl (g.1 1000000 (i + 3)), .inl (g.1 1000000 (i + 4)), .inl (g.1 1000000 (i + 5))].reverse ++ .inr (.inr (.inl 0)) :: []) g cs Q
  refine e_callV (Yc := YX11_feed) (rc := r1) (a := 0) (n := 5) (e_dx DL_law_1 11 rfl) mwX11_feed vwX11_feed cL_33 (by decide) z2 rfl ⟨Nat.le_of_ble_eq_true rfl, Nat.le_of_ble_eq_true rfl⟩ q1 q2 q3 (by decide) (e_T.mono h ?_)
  rintro v g1 ⟨x, rfl, hk⟩
  refine ⟨(fun h => by cases h), fun ht => ?_⟩
  have h2 := hk ht
  show e_T sh YL_law rm 162 ls [.inl x] g1 (cs.1 + r1.2.1, cs.2 + r1.2.2) Q
  refine e_aload_n (pc := 162) (n := 2) (e_dx DL_law_1 12 rfl) l4 (by decide) ?_
  refine lw_ld (pc := 163) (c := 1) (e_dx DL_law_1 13 rfl) (e_dx DL_law_1 14 rfl) (e_dx DL_law_1 15 rfl) (e_dx DL_law_1 16 rfl) (e_dx DL_law_1 17 rfl) hS hl rfl (by omega) ?_
  refine lw_ld (pc := 169) (c := 2) (e_dx DL_law_1 18 rfl) (e_dx DL_law_1 19 rfl) (e_dx DL_law_1 20 rfl) (e_dx DL_law_1 21 rfl) (e_dx DL_law_1 22 rfl) hS hl rfl (by omega) ?_
  refine lw_ld (pc := 175) (c := 3) (e_dx DL_law_1 23 rfl) (e_dx DL_law_1 24 rfl) (e_dx DL_law_1 25 rfl) (e_dx DL_law_1 26 rfl) (e_dx DL_law_1 27 rfl) hS hl rfl (by omega) ?_
  refine lw_ld (pc := 181) (c := 4) (e_dx DL_law_1 28 rfl) (e_dx DL_law_1 29 rfl) (e_dx DL_law_1 30 rfl) (e_dx DL_law_1 31 rfl) (e_dx DL_law_1 32 rfl) hS hl rfl (by omega) ?_
  refine lw_ld (pc := 187) (c := 5) (e_dx DL_law_1 33 rfl) (e_dx DL_law_1 34 rfl) (e_dx DL_law_1 35 rfl) (e_dx DL_law_1 36 rfl) (e_dx DL_law_1 37 rfl) hS hl rfl (by omega) ?_
  show e_T sh YL_law rm 193 ls ([.inl (g1.1 1000000 (i + 1)), .inl (g1.1 1000000 (i + 2)), .inl (g1.1 1000000 (i + 3)), .inl (g1.1 1000000 (i + 4)), .inl (g1.1 1000000 (i + 5))].reverse ++ .inr (.inr (.inl 4456)) :: [.inl x]) g1 (cs.1 + r1.2.1, cs.2 + r1.2.2) Q
  refine e_callV (Yc := YX12_feed) (rc := r2) (a := 4456) (n := 5) (e_dx DL_law_1 38 rfl) mwX12_feed vwX12_feed cL_37 (by decide) z3 rfl ⟨Nat.le_of_ble_eq_true rfl, Nat.le_of_ble_eq_true rfl⟩ p1 p2 p3 (Nat.le_of_ble_eq_true rfl) (e_T.mono h2 ?_)
  rintro w g2 ⟨rfl, hk2⟩
  refine ⟨(fun h => by cases h), fun ht2 => ?_⟩
  show e_T sh YL_law rm 196 ls [.inl x, .inl x] g2 (cs.1 + r1.2.1 + r2.2.1, cs.2 + r1.2.2 + r2.2.2) Q
  exact e_icmp_eq (pc := 196) (tgt := 830) (e_dx DL_law_1 39 rfl) (by decide) (fun _ => hk2 ht2) (fun hne => absurd rfl hne)
/-- end -/
theorem law_end {ls : List e_V} {r1 r2 : Nat × Nat × Nat} (hS : lw_S sh L) (hl : lw_L i ls) (hi : i + 6 ≤ L) (q1 : r1.1 + 1 ≤ rm.1) (q2 : cs.1 + r1.2.1 ≤ rm.2.1) (q3 : cs.2 + r1.2.2 ≤ rm.2.2) (p1 : r2.1 + 1 ≤ rm.1) (p2 : cs.1 + r1.2.1 + r2.2.1 ≤ rm.2.1) (p3 : cs.2 + r1.2.2 + r2.2.2 ≤ rm.2.2)
    (h : e_T sh YX11_end r1 0 (e_loc 2 [.inr (.inr (.inl 0)), .inl (g.1 1000000 (i + 1))]) [] g (0, 0) (fun v g1 => ∃ x : Int, v = some (.inl x) ∧ (g.2 ≤ g1.2 → e_T sh YX12_end r2 0 (e_loc 2 [.inr (.inr (.inl 4456)), .inl (g1.1 1000000 (i + 1))]) [] g1 (0, 0) (fun w g2 => w = some (.inl x) ∧ (g1.2 ≤ g2.2 → e_T sh YL_law rm 830 ls [] g2 (cs.1 + r1.2.1 + r2.2.1, cs.2 + r1.2.2 + r2.2.2) Q))))) : e_T sh YL_law rm 201 ls [] g cs Q := by
  obtain ⟨l1, l2, l3, l4, l5, l6⟩ := id hl
  obtain ⟨z1, z2, z3, z4, z5⟩ := id hS
  refine e_aload_n (pc := 201) (n := 1) (e_dx DL_law_2 2 rfl) l3 (by decide) ?_
  refine lw_ld (pc := 202) (c := 1) (e_dx DL_law_2 3 rfl) (e_dx DL_law_2 4 rfl) (e_dx DL_law_2 5 rfl) (e_dx DL_law_2 6 rfl) (e_dx DL_law_2 7 rfl) hS hl rfl (by omega) ?_
  show e_T sh YL_law rm 208 ls ([.inl (g.1 1000000 (i + 1))].reverse ++ .inr (.inr (.inl 0)) :: []) g cs Q
  refine e_callV (Yc := YX11_end) (rc := r1) (a := 0) (n := 1) (e_dx DL_law_2 8 rfl) mwX11_end vwX11_end cL_38 (by decide) z2 rfl ⟨Nat.le_of_ble_eq_true rfl, Nat.le_of_ble_eq_true rfl⟩ q1 q2 q3 (by decide) (e_T.mono h ?_)
  rintro v g1 ⟨x, rfl, hk⟩
  refine ⟨(fun h => by cases h), fun ht => ?_⟩
  have h2 := hk ht
  show e_T sh YL_law rm 211 ls [.inl x] g1 (cs.1 + r1.2.1, cs.2 + r1.2.2) Q
  refine e_aload_n (pc := 211) (n := 2) (e_dx DL_law_2 9 rfl) l4 (by decide) ?_
  refine lw_ld (pc := 212) (c := 1) (e_dx DL_law_2 10 rfl) (e_dx DL_law_2 11 rfl) (e_dx DL_law_2 12 rfl) (e_dx DL_law_2 13 rfl) (e_dx DL_law_2 14 rfl) hS hl rfl (by omega) ?_
  show e_T sh YL_law rm 218 ls ([.inl (g1.1 1000000 (i + 1))].reverse ++ .inr (.inr (.inl 4456)) :: [.inl x]) g1 (cs.1 + r1.2.1, cs.2 + r1.2.2) Q
  refine e_callV (Yc := YX12_end) (rc := r2) (a := 4456) (n := 1) (e_dx DL_law_2 15 rfl) mwX12_end vwX12_end cL_42 (by decide) z3 rfl ⟨Nat.le_of_ble_eq_true rfl, Nat.le_of_ble_eq_true rfl⟩ p1 p2 p3 (Nat.le_of_ble_eq_true rfl) (e_T.mono h2 ?_)
  rintro w g2 ⟨rfl, hk2⟩
  refine ⟨(fun h => by cases h), fun ht2 => ?_⟩
  show e_T sh YL_law rm 221 ls [.inl x, .inl x] g2 (cs.1 + r1.2.1 + r2.2.1, cs.2 + r1.2.2 + r2.2.2) Q
  exact e_icmp_eq (pc := 221) (tgt := 830) (e_dx DL_law_2 16 rfl) (by decide) (fun _ => hk2 ht2) (fun hne => absurd rfl hne)
/-- clock -/
theorem law_clock {ls : List e_V} {r1 r2 : Nat × Nat × Nat} (hS : lw_S sh L) (hl : lw_L i ls) (hi : i + 6 ≤ L) (q1 : r1.1 + 1 ≤ rm.1) (q2 : cs.1 + r1.2.1 ≤ rm.2.1) (q3 : cs.2 + r1.2.2 ≤ rm.2.2) (p1 : r2.1 + 1 ≤ rm.1) (p2 : cs.1 + r1.2.1 + r2.2.1 ≤ rm.2.1) (p3 : cs.2 + r1.2.2 + r2.2.2 ≤ rm.2.2)
    (h : e_T sh YX11_clock r1 0 (e_loc 2 [.inr (.inr (.inl 0)), .inl (g.1 1000000 (i + 1))]) [] g (0, 0) (fun v g1 => ∃ x : Int, v = some (.inl x) ∧ (g.2 ≤ g1.2 → e_T sh YX12_clock r2 0 (e_loc 2 [.inr (.inr (.inl 4456)), .inl (g1.1 1000000 (i + 1))]) [] g1 (0, 0) (fun w g2 => w = some (.inl x) ∧ (g1.2 ≤ g2.2 → e_T sh YL_law rm 830 ls [] g2 (cs.1 + r1.2.1 + r2.2.1, cs.2 + r1.2.2 + r2.2.2) Q))))) : e_T sh YL_law rm 226 ls [] g cs Q := by
  obtain ⟨l1, l2, l3, l4, l5, l6⟩ := id hl
  obtain ⟨z1, z2, z3, z4, z5⟩ := id hS
  refine e_aload_n (pc := 226) (n := 1) (e_dx DL_law_2 19 rfl) l3 (by decide) ?_
  refine lw_ld (pc := 227) (c := 1) (e_dx DL_law_2 20 rfl) (e_dx DL_law_2 21 rfl) (e_dx DL_law_2 22 rfl) (e_dx DL_law_2 23 rfl) (e_dx DL_law_2 24 rfl) hS hl rfl (by omega) ?_
  show e_T sh YL_law rm 233 ls ([.inl (g.1 1000000 (i + 1))].reverse ++ .inr (.inr (.inl 0)) :: []) g cs Q
  refine e_callV (Yc := YX11_clock) (rc := r1) (a := 0) (n := 1) (e_dx DL_law_2 25 rfl) mwX11_clock vwX11_clock cL_43 (by decide) z2 rfl ⟨Nat.le_of_ble_eq_true rfl, Nat.le_of_ble_eq_true rfl⟩ q1 q2 q3 (by decide) (e_T.mono h ?_)
  rintro v g1 ⟨x, rfl, hk⟩
  refine ⟨(fun h => by cases h), fun ht => ?_⟩
  have h2 := hk ht
  show e_T sh YL_law rm 236 ls [.inl x] g1 (cs.1 + r1.2.1, cs.2 + r1.2.2) Q
  refine e_aload_n (pc := 236) (n := 2) (e_dx DL_law_2 26 rfl) l4 (by decide) ?_
  refine lw_ld (pc := 237) (c := 1) (e_dx DL_law_2 27 rfl) (e_dx DL_law_2 28 rfl) (e_dx DL_law_2 29 rfl) (e_dx DL_law_2 30 rfl) (e_dx DL_law_2 31 rfl) hS hl rfl (by omega) ?_
  show e_T sh YL_law rm 243 ls ([.inl (g1.1 1000000 (i + 1))].reverse ++ .inr (.inr (.inl 4456)) :: [.inl x]) g1 (cs.1 + r1.2.1, cs.2 + r1.2.2) Q
  refine e_callV (Yc := YX12_clock) (rc := r2) (a := 4456) (n := 1) (e_dx DL_law_2 32 rfl) mwX12_clock vwX12_clock cL_46 (by decide) z3 rfl ⟨Nat.le_of_ble_eq_true rfl, Nat.le_of_ble_eq_true rfl⟩ p1 p2 p3 (Nat.le_of_ble_eq_true rfl) (e_T.mono h2 ?_)
  rintro w g2 ⟨rfl, hk2⟩
  refine ⟨(fun h => by cases h), fun ht2 => ?_⟩
  show e_T sh YL_law rm 246 ls [.inl x, .inl x] g2 (cs.1 + r1.2.1 + r2.2.1, cs.2 + r1.2.2 + r2.2.2) Q
  exact e_icmp_eq (pc := 246) (tgt := 830) (e_dx DL_law_2 33 rfl) (by decide) (fun _ => hk2 ht2) (fun hne => absurd rfl hne)
/-- enter -/
theorem law_enter {ls : List e_V} {r1 r2 : Nat × Nat × Nat} (hS : lw_S sh L) (hl : lw_L i ls) (hi : i + 6 ≤ L) (q1 : r1.1 + 1 ≤ rm.1) (q2 : cs.1 + r1.2.1 ≤ rm.2.1) (q3 : cs.2 + r1.2.2 ≤ rm.2.2) (p1 : r2.1 + 1 ≤ rm.1) (p2 : cs.1 + r1.2.1 + r2.2.1 ≤ rm.2.1) (p3 : cs.2 + r1.2.2 + r2.2.2 ≤ rm.2.2)
    (h : e_T sh YX11_enter r1 0 (e_loc 2 [.inr (.inr (.inl 0))]) [] g (0, 0) (fun v g1 => ∃ x : Int, v = some (.inl x) ∧ (g.2 ≤ g1.2 → e_T sh YX12_enter r2 0 (e_loc 2 [.inr (.inr (.inl 4456))]) [] g1 (0, 0) (fun w g2 => w = some (.inl x) ∧ (g1.2 ≤ g2.2 → e_T sh YL_law rm 830 ls [] g2 (cs.1 + r1.2.1 + r2.2.1, cs.2 + r1.2.2 + r2.2.2) Q))))) : e_T sh YL_law rm 251 ls [] g cs Q := by
  obtain ⟨l1, l2, l3, l4, l5, l6⟩ := id hl
  obtain ⟨z1, z2, z3, z4, z5⟩ := id hS
  refine e_aload_n (pc := 251) (n := 1) (e_dx DL_law_2 36 rfl) l3 (by decide) ?_
  show e_T sh YL_law rm 252 ls ([].reverse ++ .inr (.inr (.inl 0)) :: []) g cs Q
  refine e_callV (Yc := YX11_enter) (rc := r1) (a := 0) (n := 0) (e_dx DL_law_2 37 rfl) mwX11_enter vwX11_enter cL_47 (by decide) z2 rfl ⟨Nat.le_of_ble_eq_true rfl, Nat.le_of_ble_eq_true rfl⟩ q1 q2 q3 (by decide) (e_T.mono h ?_)
  rintro v g1 ⟨x, rfl, hk⟩
  refine ⟨(fun h => by cases h), fun ht => ?_⟩
  have h2 := hk ht
  show e_T sh YL_law rm 255 ls [.inl x] g1 (cs.1 + r1.2.1, cs.2 + r1.2.2) Q
  refine e_aload_n (pc := 255) (n := 2) (e_dx DL_law_2 38 rfl) l4 (by decide) ?_
  show e_T sh YL_law rm 256 ls ([].reverse ++ .inr (.inr (.inl 4456)) :: [.inl x]) g1 (cs.1 + r1.2.1, cs.2 + r1.2.2) Q
  refine e_callV (Yc := YX12_enter) (rc := r2) (a := 4456) (n := 0) (e_dx DL_law_2 39 rfl) mwX12_enter vwX12_enter cL_51 (by decide) z3 rfl ⟨Nat.le_of_ble_eq_true rfl, Nat.le_of_ble_eq_true rfl⟩ p1 p2 p3 (Nat.le_of_ble_eq_true rfl) (e_T.mono h2 ?_)
  rintro w g2 ⟨rfl, hk2⟩
  refine ⟨(fun h => by cases h), fun ht2 => ?_⟩
  show e_T sh YL_law rm 259 ls [.inl x, .inl x] g2 (cs.1 + r1.2.1 + r2.2.1, cs.2 + r1.2.2 + r2.2.2) Q
  exact e_icmp_eq (pc := 259) (tgt := 830) (e_dx DL_law_3 0 rfl) (by decide) (fun _ => hk2 ht2) (fun hne => absurd rfl hne)
/-- fault -/
theorem law_fault {ls : List e_V} {r1 r2 : Nat × Nat × Nat} (hS : lw_S sh L) (hl : lw_L i ls) (hi : i + 6 ≤ L) (q1 : r1.1 + 1 ≤ rm.1) (q2 : cs.1 + r1.2.1 ≤ rm.2.1) (q3 : cs.2 + r1.2.2 ≤ rm.2.2) (p1 : r2.1 + 1 ≤ rm.1) (p2 : cs.1 + r1.2.1 + r2.2.1 ≤ rm.2.1) (p3 : cs.2 + r1.2.2 + r2.2.2 ≤ rm.2.2)
    (h : e_T sh YX11_fault r1 0 (e_loc 1 [.inr (.inr (.inl 0))]) [] g (0, 0) (fun v g1 => ∃ x : Int, v = some (.inl x) ∧ (g.2 ≤ g1.2 → e_T sh YX12_fault r2 0 (e_loc 1 [.inr (.inr (.inl 4456))]) [] g1 (0, 0) (fun w g2 => w = some (.inl x) ∧ (g1.2 ≤ g2.2 → e_T sh YL_law rm 830 ls [] g2 (cs.1 + r1.2.1 + r2.2.1, cs.2 + r1.2.2 + r2.2.2) Q))))) : e_T sh YL_law rm 264 ls [] g cs Q := by
  obtain ⟨l1, l2, l3, l4, l5, l6⟩ := id hl
  obtain ⟨z1, z2, z3, z4, z5⟩ := id hS
  refine e_aload_n (pc := 264) (n := 1) (e_dx DL_law_3 3 rfl) l3 (by decide) ?_
  show e_T sh YL_law rm 265 ls ([].reverse ++ .inr (.inr (.inl 0)) :: []) g cs Q
  refine e_callV (Yc := YX11_fault) (rc := r1) (a := 0) (n := 0) (e_dx DL_law_3 4 rfl) mwX11_fault vwX11_fault cL_52 (by decide) z2 rfl ⟨Nat.le_of_ble_eq_true rfl, Nat.le_of_ble_eq_true rfl⟩ q1 q2 q3 (by decide) (e_T.mono h ?_)
  rintro v g1 ⟨x, rfl, hk⟩
  refine ⟨(fun h => by cases h), fun ht => ?_⟩
  have h2 := hk ht
  show e_T sh YL_law rm 268 ls [.inl x] g1 (cs.1 + r1.2.1, cs.2 + r1.2.2) Q
  refine e_aload_n (pc := 268) (n := 2) (e_dx DL_law_3 5 rfl) l4 (by decide) ?_
  show e_T sh YL_law rm 269 ls ([].reverse ++ .inr (.inr (.inl 4456)) :: [.inl x]) g1 (cs.1 + r1.2.1, cs.2 + r1.2.2) Q
  refine e_callV (Yc := YX12_fault) (rc := r2) (a := 4456) (n := 0) (e_dx DL_law_3 6 rfl) mwX12_fault vwX12_fault cL_55 (by decide) z3 rfl ⟨Nat.le_of_ble_eq_true rfl, Nat.le_of_ble_eq_true rfl⟩ p1 p2 p3 (Nat.le_of_ble_eq_true rfl) (e_T.mono h2 ?_)
  rintro w g2 ⟨rfl, hk2⟩
  refine ⟨(fun h => by cases h), fun ht2 => ?_⟩
  show e_T sh YL_law rm 272 ls [.inl x, .inl x] g2 (cs.1 + r1.2.1 + r2.2.1, cs.2 + r1.2.2 + r2.2.2) Q
  exact e_icmp_eq (pc := 272) (tgt := 830) (e_dx DL_law_3 7 rfl) (by decide) (fun _ => hk2 ht2) (fun hne => absurd rfl hne)
/-- suppose -/
theorem law_suppose {ls : List e_V} {r1 r2 : Nat × Nat × Nat} (hS : lw_S sh L) (hl : lw_L i ls) (hi : i + 6 ≤ L) (q1 : r1.1 + 1 ≤ rm.1) (q2 : cs.1 + r1.2.1 ≤ rm.2.1) (q3 : cs.2 + r1.2.2 ≤ rm.2.2) (p1 : r2.1 + 1 ≤ rm.1) (p2 : cs.1 + r1.2.1 + r2.2.1 ≤ rm.2.1) (p3 : cs.2 + r1.2.2 + r2.2.2 ≤ rm.2.2)
    (h : e_T sh YX11_suppose r1 0 (e_loc 4 [.inr (.inr (.inl 0))]) [] g (0, 0) (fun v g1 => ∃ x : Int, v = some (.inl x) ∧ (g.2 ≤ g1.2 → e_T sh YX12_suppose r2 0 (e_loc 1 [.inr (.inr (.inl 4456))]) [] g1 (0, 0) (fun w g2 => w = some (.inl x) ∧ (g1.2 ≤ g2.2 → e_T sh YL_law rm 830 ls [] g2 (cs.1 + r1.2.1 + r2.2.1, cs.2 + r1.2.2 + r2.2.2) Q))))) : e_T sh YL_law rm 277 ls [] g cs Q := by
  obtain ⟨l1, l2, l3, l4, l5, l6⟩ := id hl
  obtain ⟨z1, z2, z3, z4, z5⟩ := id hS
  refine e_aload_n (pc := 277) (n := 1) (e_dx DL_law_3 10 rfl) l3 (by decide) ?_
  show e_T sh YL_law rm 278 ls ([].reverse ++ .inr (.inr (.inl 0)) :: []) g cs Q
  refine e_callV (Yc := YX11_suppose) (rc := r1) (a := 0) (n := 0) (e_dx DL_law_3 11 rfl) mwX11_suppose vwX11_suppose cL_56 (by decide) z2 rfl ⟨Nat.le_of_ble_eq_true rfl, Nat.le_of_ble_eq_true rfl⟩ q1 q2 q3 (by decide) (e_T.mono h ?_)
  rintro v g1 ⟨x, rfl, hk⟩
  refine ⟨(fun h => by cases h), fun ht => ?_⟩
  have h2 := hk ht
  show e_T sh YL_law rm 281 ls [.inl x] g1 (cs.1 + r1.2.1, cs.2 + r1.2.2) Q
  refine e_aload_n (pc := 281) (n := 2) (e_dx DL_law_3 12 rfl) l4 (by decide) ?_
  show e_T sh YL_law rm 282 ls ([].reverse ++ .inr (.inr (.inl 4456)) :: [.inl x]) g1 (cs.1 + r1.2.1, cs.2 + r1.2.2) Q
  refine e_callV (Yc := YX12_suppose) (rc := r2) (a := 4456) (n := 0) (e_dx DL_law_3 13 rfl) mwX12_suppose vwX12_suppose cL_59 (by decide) z3 rfl ⟨Nat.le_of_ble_eq_true rfl, Nat.le_of_ble_eq_true rfl⟩ p1 p2 p3 (Nat.le_of_ble_eq_true rfl) (e_T.mono h2 ?_)
  rintro w g2 ⟨rfl, hk2⟩
  refine ⟨(fun h => by cases h), fun ht2 => ?_⟩
  show e_T sh YL_law rm 285 ls [.inl x, .inl x] g2 (cs.1 + r1.2.1 + r2.2.1, cs.2 + r1.2.2 + r2.2.2) Q
  exact e_icmp_eq (pc := 285) (tgt := 830) (e_dx DL_law_3 14 rfl) (by decide) (fun _ => hk2 ht2) (fun hne => absurd rfl hne)
/-- view -/
theorem law_view {ls : List e_V} {r1 r2 : Nat × Nat × Nat} (hS : lw_S sh L) (hl : lw_L i ls) (hi : i + 6 ≤ L) (q1 : r1.1 + 1 ≤ rm.1) (q2 : cs.1 + r1.2.1 ≤ rm.2.1) (q3 : cs.2 + r1.2.2 ≤ rm.2.2) (p1 : r2.1 + 1 ≤ rm.1) (p2 : cs.1 + r1.2.1 + r2.2.1 ≤ rm.2.1) (p3 : cs.2 + r1.2.2 + r2.2.2 ≤ rm.2.2)
    (h : e_T sh YX11_view r1 0 (e_loc 3 [.inr (.inr (.inl 0)), .inl (g.1 1000000 (i + 1)), .inl (g.1 1000000 (i + 2))]) [] g (0, 0) (fun v g1 => ∃ x : Int, v = some (.inl x) ∧ (g.2 ≤ g1.2 → e_T sh YX12_view r2 0 (e_loc 3 [.inr (.inr (.inl 4456)), .inl (g1.1 1000000 (i + 1)), .inl (g1.1 1000000 (i + 2))]) [] g1 (0, 0) (fun w g2 => w = some (.inl x) ∧ (g1.2 ≤ g2.2 → e_T sh YL_law rm 830 ls [] g2 (cs.1 + r1.2.1 + r2.2.1, cs.2 + r1.2.2 + r2.2.2) Q))))) : e_T sh YL_law rm 290 ls [] g cs Q := by
  obtain ⟨l1, l2, l3, l4, l5, l6⟩ := id hl
  obtain ⟨z1, z2, z3, z4, z5⟩ := id hS
  refine e_aload_n (pc := 290) (n := 1) (e_dx DL_law_3 17 rfl) l3 (by decide) ?_
  refine lw_ld (pc := 291) (c := 1) (e_dx DL_law_3 18 rfl) (e_dx DL_law_3 19 rfl) (e_dx DL_law_3 20 rfl) (e_dx DL_law_3 21 rfl) (e_dx DL_law_3 22 rfl) hS hl rfl (by omega) ?_
  refine lw_ld (pc := 297) (c := 2) (e_dx DL_law_3 23 rfl) (e_dx DL_law_3 24 rfl) (e_dx DL_law_3 25 rfl) (e_dx DL_law_3 26 rfl) (e_dx DL_law_3 27 rfl) hS hl rfl (by omega) ?_
  show e_T sh YL_law rm 303 ls ([.inl (g.1 1000000 (i + 1)), .inl (g.1 1000000 (i + 2))].reverse ++ .inr (.inr (.inl 0)) :: []) g cs Q
  refine e_callV (Yc := YX11_view) (rc := r1) (a := 0) (n := 2) (e_dx DL_law_3 28 rfl) mwX11_view vwX11_view cL_60 (by decide) z2 rfl ⟨Nat.le_of_ble_eq_true rfl, Nat.le_of_ble_eq_true rfl⟩ q1 q2 q3 (by decide) (e_T.mono h ?_)
  rintro v g1 ⟨x, rfl, hk⟩
  refine ⟨(fun h => by cases h), fun ht => ?_⟩
  have h2 := hk ht
  show e_T sh YL_law rm 306 ls [.inl x] g1 (cs.1 + r1.2.1, cs.2 + r1.2.2) Q
  refine e_aload_n (pc := 306) (n := 2) (e_dx DL_law_3 29 rfl) l4 (by decide) ?_
  refine lw_ld (pc := 307) (c := 1) (e_dx DL_law_3 30 rfl) (e_dx DL_law_3 31 rfl) (e_dx DL_law_3 32 rfl) (e_dx DL_law_3 33 rfl) (e_dx DL_law_3 34 rfl) hS hl rfl (by omega) ?_
  refine lw_ld (pc := 313) (c := 2) (e_dx DL_law_3 35 rfl) (e_dx DL_law_3 36 rfl) (e_dx DL_law_3 37 rfl) (e_dx DL_law_3 38 rfl) (e_dx DL_law_3 39 rfl) hS hl rfl (by omega) ?_
  show e_T sh YL_law rm 319 ls ([.inl (g1.1 1000000 (i + 1)), .inl (g1.1 1000000 (i + 2))].reverse ++ .inr (.inr (.inl 4456)) :: [.inl x]) g1 (cs.1 + r1.2.1, cs.2 + r1.2.2) Q
  refine e_callV (Yc := YX12_view) (rc := r2) (a := 4456) (n := 2) (e_dx DL_law_4 0 rfl) mwX12_view vwX12_view cL_64 (by decide) z3 rfl ⟨Nat.le_of_ble_eq_true rfl, Nat.le_of_ble_eq_true rfl⟩ p1 p2 p3 (Nat.le_of_ble_eq_true rfl) (e_T.mono h2 ?_)
  rintro w g2 ⟨rfl, hk2⟩
  refine ⟨(fun h => by cases h), fun ht2 => ?_⟩
  show e_T sh YL_law rm 322 ls [.inl x, .inl x] g2 (cs.1 + r1.2.1 + r2.2.1, cs.2 + r1.2.2 + r2.2.2) Q
  exact e_icmp_eq (pc := 322) (tgt := 830) (e_dx DL_law_4 1 rfl) (by decide) (fun _ => hk2 ht2) (fun hne => absurd rfl hne)
/-- came -/
theorem law_came {ls : List e_V} {r1 r2 : Nat × Nat × Nat} (hS : lw_S sh L) (hl : lw_L i ls) (hi : i + 6 ≤ L) (q1 : r1.1 + 1 ≤ rm.1) (q2 : cs.1 + r1.2.1 ≤ rm.2.1) (q3 : cs.2 + r1.2.2 ≤ rm.2.2) (p1 : r2.1 + 1 ≤ rm.1) (p2 : cs.1 + r1.2.1 + r2.2.1 ≤ rm.2.1) (p3 : cs.2 + r1.2.2 + r2.2.2 ≤ rm.2.2)
    (h : e_T sh YX11_came r1 0 (e_loc 2 [.inr (.inr (.inl 0)), .inl (g.1 1000000 (i + 1))]) [] g (0, 0) (fun v g1 => ∃ x : Int, v = some (.inl x) ∧ (g.2 ≤ g1.2 → e_T sh YX12_came r2 0 (e_loc 2 [.inr (.inr (.inl 4456)), .inl (g1.1 1000000 (i + 1))]) [] g1 (0, 0) (fun w g2 => w = some (.inl x) ∧ (g1.2 ≤ g2.2 → e_T sh YL_law rm 830 ls [] g2 (cs.1 + r1.2.1 + r2.2.1, cs.2 + r1.2.2 + r2.2.2) Q))))) : e_T sh YL_law rm 327 ls [] g cs Q := by
  obtain ⟨l1, l2, l3, l4, l5, l6⟩ := id hl
  obtain ⟨z1, z2, z3, z4, z5⟩ := id hS
  refine e_aload_n (pc := 327) (n := 1) (e_dx DL_law_4 4 rfl) l3 (by decide) ?_
  refine lw_ld (pc := 328) (c := 1) (e_dx DL_law_4 5 rfl) (e_dx DL_law_4 6 rfl) (e_dx DL_law_4 7 rfl) (e_dx DL_law_4 8 rfl) (e_dx DL_law_4 9 rfl) hS hl rfl (by omega) ?_
  show e_T sh YL_law rm 334 ls ([.inl (g.1 1000000 (i + 1))].reverse ++ .inr (.inr (.inl 0)) :: []) g cs Q
  refine e_callV (Yc := YX11_came) (rc := r1) (a := 0) (n := 1) (e_dx DL_law_4 10 rfl) mwX11_came vwX11_came cL_65 (by decide) z2 rfl ⟨Nat.le_of_ble_eq_true rfl, Nat.le_of_ble_eq_true rfl⟩ q1 q2 q3 (by decide) (e_T.mono h ?_)
  rintro v g1 ⟨x, rfl, hk⟩
  refine ⟨(fun h => by cases h), fun ht => ?_⟩
  have h2 := hk ht
  show e_T sh YL_law rm 337 ls [.inl x] g1 (cs.1 + r1.2.1, cs.2 + r1.2.2) Q
  refine e_aload_n (pc := 337) (n := 2) (e_dx DL_law_4 11 rfl) l4 (by decide) ?_
  refine lw_ld (pc := 338) (c := 1) (e_dx DL_law_4 12 rfl) (e_dx DL_law_4 13 rfl) (e_dx DL_law_4 14 rfl) (e_dx DL_law_4 15 rfl) (e_dx DL_law_4 16 rfl) hS hl rfl (by omega) ?_
  show e_T sh YL_law rm 344 ls ([.inl (g1.1 1000000 (i + 1))].reverse ++ .inr (.inr (.inl 4456)) :: [.inl x]) g1 (cs.1 + r1.2.1, cs.2 + r1.2.2) Q
  refine e_callV (Yc := YX12_came) (rc := r2) (a := 4456) (n := 1) (e_dx DL_law_4 17 rfl) mwX12_came vwX12_came cL_68 (by decide) z3 rfl ⟨Nat.le_of_ble_eq_true rfl, Nat.le_of_ble_eq_true rfl⟩ p1 p2 p3 (Nat.le_of_ble_eq_true rfl) (e_T.mono h2 ?_)
  rintro w g2 ⟨rfl, hk2⟩
  refine ⟨(fun h => by cases h), fun ht2 => ?_⟩
  show e_T sh YL_law rm 347 ls [.inl x, .inl x] g2 (cs.1 + r1.2.1 + r2.2.1, cs.2 + r1.2.2 + r2.2.2) Q
  exact e_icmp_eq (pc := 347) (tgt := 830) (e_dx DL_law_4 18 rfl) (by decide) (fun _ => hk2 ht2) (fun hne => absurd rfl hne)
/-- ask -/
theorem law_ask {ls : List e_V} {r1 r2 : Nat × Nat × Nat} (hS : lw_S sh L) (hl : lw_L i ls) (hi : i + 6 ≤ L) (q1 : r1.1 + 1 ≤ rm.1) (q2 : cs.1 + r1.2.1 ≤ rm.2.1) (q3 : cs.2 + r1.2.2 ≤ rm.2.2) (p1 : r2.1 + 1 ≤ rm.1) (p2 : cs.1 + r1.2.1 + r2.2.1 ≤ rm.2.1) (p3 : cs.2 + r1.2.2 + r2.2.2 ≤ rm.2.2)
    (h : e_T sh YX11_ask r1 0 (e_loc 4 [.inr (.inr (.inl 0))]) [] g (0, 0) (fun v g1 => ∃ x : Int, v = some (.inl x) ∧ (g.2 ≤ g1.2 → e_T sh YX12_ask r2 0 (e_loc 1 [.inr (.inr (.inl 4456))]) [] g1 (0, 0) (fun w g2 => w = some (.inl x) ∧ (g1.2 ≤ g2.2 → e_T sh YL_law rm 830 ls [] g2 (cs.1 + r1.2.1 + r2.2.1, cs.2 + r1.2.2 + r2.2.2) Q))))) : e_T sh YL_law rm 352 ls [] g cs Q := by
  obtain ⟨l1, l2, l3, l4, l5, l6⟩ := id hl
  obtain ⟨z1, z2, z3, z4, z5⟩ := id hS
  refine e_aload_n (pc := 352) (n := 1) (e_dx DL_law_4 21 rfl) l3 (by decide) ?_
  show e_T sh YL_law rm 353 ls ([].reverse ++ .inr (.inr (.inl 0)) :: []) g cs Q
  refine e_callV (Yc := YX11_ask) (rc := r1) (a := 0) (n := 0) (e_dx DL_law_4 22 rfl) mwX11_ask vwX11_ask cL_69 (by decide) z2 rfl ⟨Nat.le_of_ble_eq_true rfl, Nat.le_of_ble_eq_true rfl⟩ q1 q2 q3 (by decide) (e_T.mono h ?_)
  rintro v g1 ⟨x, rfl, hk⟩
  refine ⟨(fun h => by cases h), fun ht => ?_⟩
  have h2 := hk ht
  show e_T sh YL_law rm 356 ls [.inl x] g1 (cs.1 + r1.2.1, cs.2 + r1.2.2) Q
  refine e_aload_n (pc := 356) (n := 2) (e_dx DL_law_4 23 rfl) l4 (by decide) ?_
  show e_T sh YL_law rm 357 ls ([].reverse ++ .inr (.inr (.inl 4456)) :: [.inl x]) g1 (cs.1 + r1.2.1, cs.2 + r1.2.2) Q
  refine e_callV (Yc := YX12_ask) (rc := r2) (a := 4456) (n := 0) (e_dx DL_law_4 24 rfl) mwX12_ask vwX12_ask cL_72 (by decide) z3 rfl ⟨Nat.le_of_ble_eq_true rfl, Nat.le_of_ble_eq_true rfl⟩ p1 p2 p3 (Nat.le_of_ble_eq_true rfl) (e_T.mono h2 ?_)
  rintro w g2 ⟨rfl, hk2⟩
  refine ⟨(fun h => by cases h), fun ht2 => ?_⟩
  show e_T sh YL_law rm 360 ls [.inl x, .inl x] g2 (cs.1 + r1.2.1 + r2.2.1, cs.2 + r1.2.2 + r2.2.2) Q
  exact e_icmp_eq (pc := 360) (tgt := 830) (e_dx DL_law_4 25 rfl) (by decide) (fun _ => hk2 ht2) (fun hne => absurd rfl hne)
/-- answer -/
theorem law_answer {ls : List e_V} {r1 r2 : Nat × Nat × Nat} (hS : lw_S sh L) (hl : lw_L i ls) (hi : i + 6 ≤ L) (q1 : r1.1 + 1 ≤ rm.1) (q2 : cs.1 + r1.2.1 ≤ rm.2.1) (q3 : cs.2 + r1.2.2 ≤ rm.2.2) (p1 : r2.1 + 1 ≤ rm.1) (p2 : cs.1 + r1.2.1 + r2.2.1 ≤ rm.2.1) (p3 : cs.2 + r1.2.2 + r2.2.2 ≤ rm.2.2)
    (h : e_T sh YX11_answer r1 0 (e_loc 1 [.inr (.inr (.inl 0))]) [] g (0, 0) (fun v g1 => ∃ x : Int, v = some (.inr (.inl x)) ∧ (g.2 ≤ g1.2 → e_T sh YX12_answer r2 0 (e_loc 1 [.inr (.inr (.inl 4456))]) [] g1 (0, 0) (fun w g2 => w = some (.inr (.inl x)) ∧ (g1.2 ≤ g2.2 → e_T sh YL_law rm 830 ls [] g2 (cs.1 + r1.2.1 + r2.2.1, cs.2 + r1.2.2 + r2.2.2) Q))))) : e_T sh YL_law rm 365 ls [] g cs Q := by
  obtain ⟨l1, l2, l3, l4, l5, l6⟩ := id hl
  obtain ⟨z1, z2, z3, z4, z5⟩ := id hS
  refine e_aload_n (pc := 365) (n := 1) (e_dx DL_law_4 28 rfl) l3 (by decide) ?_
  show e_T sh YL_law rm 366 ls ([].reverse ++ .inr (.inr (.inl 0)) :: []) g cs Q
  refine e_callV (Yc := YX11_answer) (rc := r1) (a := 0) (n := 0) (e_dx DL_law_4 29 rfl) mwX11_answer vwX11_answer cL_73 (by decide) z2 rfl ⟨Nat.le_of_ble_eq_true rfl, Nat.le_of_ble_eq_true rfl⟩ q1 q2 q3 (by decide) (e_T.mono h ?_)
  rintro v g1 ⟨x, rfl, hk⟩
  refine ⟨(fun h => by cases h), fun ht => ?_⟩
  have h2 := hk ht
  show e_T sh YL_law rm 369 ls [.inr (.inl x)] g1 (cs.1 + r1.2.1, cs.2 + r1.2.2) Q
  refine e_aload_n (pc := 369) (n := 2) (e_dx DL_law_4 30 rfl) l4 (by decide) ?_
  show e_T sh YL_law rm 370 ls ([].reverse ++ .inr (.inr (.inl 4456)) :: [.inr (.inl x)]) g1 (cs.1 + r1.2.1, cs.2 + r1.2.2) Q
  refine e_callV (Yc := YX12_answer) (rc := r2) (a := 4456) (n := 0) (e_dx DL_law_4 31 rfl) mwX12_answer vwX12_answer cL_77 (by decide) z3 rfl ⟨Nat.le_of_ble_eq_true rfl, Nat.le_of_ble_eq_true rfl⟩ p1 p2 p3 (Nat.le_of_ble_eq_true rfl) (e_T.mono h2 ?_)
  rintro w g2 ⟨rfl, hk2⟩
  refine ⟨(fun h => by cases h), fun ht2 => ?_⟩
  show e_T sh YL_law rm 373 ls [.inr (.inl x), .inr (.inl x)] g2 (cs.1 + r1.2.1 + r2.2.1, cs.2 + r1.2.2 + r2.2.2) Q
  exact e_lcmp_ (e_dx DL_law_4 32 rfl) (e_if_eq (pc := 374) (tgt := 830) (e_dx DL_law_4 33 rfl) (by decide) (fun _ => hk2 ht2) (fun hne => absurd lw_cmp hne))
/-- count -/
theorem law_count {ls : List e_V} {r1 r2 : Nat × Nat × Nat} (hS : lw_S sh L) (hl : lw_L i ls) (hi : i + 6 ≤ L) (q1 : r1.1 + 1 ≤ rm.1) (q2 : cs.1 + r1.2.1 ≤ rm.2.1) (q3 : cs.2 + r1.2.2 ≤ rm.2.2) (p1 : r2.1 + 1 ≤ rm.1) (p2 : cs.1 + r1.2.1 + r2.2.1 ≤ rm.2.1) (p3 : cs.2 + r1.2.2 + r2.2.2 ≤ rm.2.2)
    (h : e_T sh YX11_count r1 0 (e_loc 2 [.inr (.inr (.inl 0)), .inl (g.1 1000000 (i + 1))]) [] g (0, 0) (fun v g1 => ∃ x : Int, v = some (.inl x) ∧ (g.2 ≤ g1.2 → e_T sh YX12_count r2 0 (e_loc 2 [.inr (.inr (.inl 4456)), .inl (g1.1 1000000 (i + 1))]) [] g1 (0, 0) (fun w g2 => w = some (.inl x) ∧ (g1.2 ≤ g2.2 → e_T sh YL_law rm 830 ls [] g2 (cs.1 + r1.2.1 + r2.2.1, cs.2 + r1.2.2 + r2.2.2) Q))))) : e_T sh YL_law rm 435 ls [] g cs Q := by
  obtain ⟨l1, l2, l3, l4, l5, l6⟩ := id hl
  obtain ⟨z1, z2, z3, z4, z5⟩ := id hS
  refine e_aload_n (pc := 435) (n := 1) (e_dx DL_law_5 31 rfl) l3 (by decide) ?_
  refine lw_ld (pc := 436) (c := 1) (e_dx DL_law_5 32 rfl) (e_dx DL_law_5 33 rfl) (e_dx DL_law_5 34 rfl) (e_dx DL_law_5 35 rfl) (e_dx DL_law_5 36 rfl) hS hl rfl (by omega) ?_
  show e_T sh YL_law rm 442 ls ([.inl (g.1 1000000 (i + 1))].reverse ++ .inr (.inr (.inl 0)) :: []) g cs Q
  refine e_callV (Yc := YX11_count) (rc := r1) (a := 0) (n := 1) (e_dx DL_law_5 37 rfl) mwX11_count vwX11_count cL_87 (by decide) z2 rfl ⟨Nat.le_of_ble_eq_true rfl, Nat.le_of_ble_eq_true rfl⟩ q1 q2 q3 (by decide) (e_T.mono h ?_)
  rintro v g1 ⟨x, rfl, hk⟩
  refine ⟨(fun h => by cases h), fun ht => ?_⟩
  have h2 := hk ht
  show e_T sh YL_law rm 445 ls [.inl x] g1 (cs.1 + r1.2.1, cs.2 + r1.2.2) Q
  refine e_aload_n (pc := 445) (n := 2) (e_dx DL_law_5 38 rfl) l4 (by decide) ?_
  refine lw_ld (pc := 446) (c := 1) (e_dx DL_law_5 39 rfl) (e_dx DL_law_6 0 rfl) (e_dx DL_law_6 1 rfl) (e_dx DL_law_6 2 rfl) (e_dx DL_law_6 3 rfl) hS hl rfl (by omega) ?_
  show e_T sh YL_law rm 452 ls ([.inl (g1.1 1000000 (i + 1))].reverse ++ .inr (.inr (.inl 4456)) :: [.inl x]) g1 (cs.1 + r1.2.1, cs.2 + r1.2.2) Q
  refine e_callV (Yc := YX12_count) (rc := r2) (a := 4456) (n := 1) (e_dx DL_law_6 4 rfl) mwX12_count vwX12_count cL_90 (by decide) z3 rfl ⟨Nat.le_of_ble_eq_true rfl, Nat.le_of_ble_eq_true rfl⟩ p1 p2 p3 (Nat.le_of_ble_eq_true rfl) (e_T.mono h2 ?_)
  rintro w g2 ⟨rfl, hk2⟩
  refine ⟨(fun h => by cases h), fun ht2 => ?_⟩
  show e_T sh YL_law rm 455 ls [.inl x, .inl x] g2 (cs.1 + r1.2.1 + r2.2.1, cs.2 + r1.2.2 + r2.2.2) Q
  exact e_icmp_eq (pc := 455) (tgt := 830) (e_dx DL_law_6 5 rfl) (by decide) (fun _ => hk2 ht2) (fun hne => absurd rfl hne)
/-- lots -/
theorem law_lots {ls : List e_V} {r1 r2 : Nat × Nat × Nat} (hS : lw_S sh L) (hl : lw_L i ls) (hi : i + 6 ≤ L) (q1 : r1.1 + 1 ≤ rm.1) (q2 : cs.1 + r1.2.1 ≤ rm.2.1) (q3 : cs.2 + r1.2.2 ≤ rm.2.2) (p1 : r2.1 + 1 ≤ rm.1) (p2 : cs.1 + r1.2.1 + r2.2.1 ≤ rm.2.1) (p3 : cs.2 + r1.2.2 + r2.2.2 ≤ rm.2.2)
    (h : e_T sh YX11_lots r1 0 (e_loc 4 [.inr (.inr (.inl 0)), .inl (g.1 1000000 (i + 1)), .inl (g.1 1000000 (i + 2)), .inl (g.1 1000000 (i + 3))]) [] g (0, 0) (fun v g1 => ∃ x : Int, v = some (.inl x) ∧ (g.2 ≤ g1.2 → e_T sh YX12_lots r2 0 (e_loc 6 [.inr (.inr (.inl 4456)), .inl (g1.1 1000000 (i + 1)), .inl (g1.1 1000000 (i + 2)), .inl (g1.1 1000000 (i + 3))]) [] g1 (0, 0) (fun w g2 => w = some (.inl x) ∧ (g1.2 ≤ g2.2 → e_T sh YL_law rm 830 ls [] g2 (cs.1 + r1.2.1 + r2.2.1, cs.2 + r1.2.2 + r2.2.2) Q))))) : e_T sh YL_law rm 767 ls [] g cs Q := by
  obtain ⟨l1, l2, l3, l4, l5, l6⟩ := id hl
  obtain ⟨z1, z2, z3, z4, z5⟩ := id hS
  refine e_aload_n (pc := 767) (n := 1) (e_dx DL_law_11 17 rfl) l3 (by decide) ?_
  refine lw_ld (pc := 768) (c := 1) (e_dx DL_law_11 18 rfl) (e_dx DL_law_11 19 rfl) (e_dx DL_law_11 20 rfl) (e_dx DL_law_11 21 rfl) (e_dx DL_law_11 22 rfl) hS hl rfl (by omega) ?_
  refine lw_ld (pc := 774) (c := 2) (e_dx DL_law_11 23 rfl) (e_dx DL_law_11 24 rfl) (e_dx DL_law_11 25 rfl) (e_dx DL_law_11 26 rfl) (e_dx DL_law_11 27 rfl) hS hl rfl (by omega) ?_
  refine lw_ld (pc := 780) (c := 3) (e_dx DL_law_11 28 rfl) (e_dx DL_law_11 29 rfl) (e_dx DL_law_11 30 rfl) (e_dx DL_law_11 31 rfl) (e_dx DL_law_11 32 rfl) hS hl rfl (by omega) ?_
  show e_T sh YL_law rm 786 ls ([.inl (g.1 1000000 (i + 1)), .inl (g.1 1000000 (i + 2)), .inl (g.1 1000000 (i + 3))].reverse ++ .inr (.inr (.inl 0)) :: []) g cs Q
  refine e_callV (Yc := YX11_lots) (rc := r1) (a := 0) (n := 3) (e_dx DL_law_11 33 rfl) mwX11_lots vwX11_lots cL_105 (by decide) z2 rfl ⟨Nat.le_of_ble_eq_true rfl, Nat.le_of_ble_eq_true rfl⟩ q1 q2 q3 (by decide) (e_T.mono h ?_)
  rintro v g1 ⟨x, rfl, hk⟩
  refine ⟨(fun h => by cases h), fun ht => ?_⟩
  have h2 := hk ht
  show e_T sh YL_law rm 789 ls [.inl x] g1 (cs.1 + r1.2.1, cs.2 + r1.2.2) Q
  refine e_aload_n (pc := 789) (n := 2) (e_dx DL_law_11 34 rfl) l4 (by decide) ?_
  refine lw_ld (pc := 790) (c := 1) (e_dx DL_law_11 35 rfl) (e_dx DL_law_11 36 rfl) (e_dx DL_law_11 37 rfl) (e_dx DL_law_11 38 rfl) (e_dx DL_law_11 39 rfl) hS hl rfl (by omega) ?_
  refine lw_ld (pc := 796) (c := 2) (e_dx DL_law_12 0 rfl) (e_dx DL_law_12 1 rfl) (e_dx DL_law_12 2 rfl) (e_dx DL_law_12 3 rfl) (e_dx DL_law_12 4 rfl) hS hl rfl (by omega) ?_
  refine lw_ld (pc := 802) (c := 3) (e_dx DL_law_12 5 rfl) (e_dx DL_law_12 6 rfl) (e_dx DL_law_12 7 rfl) (e_dx DL_law_12 8 rfl) (e_dx DL_law_12 9 rfl) hS hl rfl (by omega) ?_
  show e_T sh YL_law rm 808 ls ([.inl (g1.1 1000000 (i + 1)), .inl (g1.1 1000000 (i + 2)), .inl (g1.1 1000000 (i + 3))].reverse ++ .inr (.inr (.inl 4456)) :: [.inl x]) g1 (cs.1 + r1.2.1, cs.2 + r1.2.2) Q
  refine e_callV (Yc := YX12_lots) (rc := r2) (a := 4456) (n := 3) (e_dx DL_law_12 10 rfl) mwX12_lots vwX12_lots cL_108 (by decide) z3 rfl ⟨Nat.le_of_ble_eq_true rfl, Nat.le_of_ble_eq_true rfl⟩ p1 p2 p3 (Nat.le_of_ble_eq_true rfl) (e_T.mono h2 ?_)
  rintro w g2 ⟨rfl, hk2⟩
  refine ⟨(fun h => by cases h), fun ht2 => ?_⟩
  show e_T sh YL_law rm 811 ls [.inl x, .inl x] g2 (cs.1 + r1.2.1 + r2.2.1, cs.2 + r1.2.2 + r2.2.2) Q
  exact e_icmp_eq (pc := 811) (tgt := 830) (e_dx DL_law_12 11 rfl) (by decide) (fun _ => hk2 ht2) (fun hne => absurd rfl hne)
/-- sum -/
theorem law_sum {ls : List e_V} {r1 r2 : Nat × Nat × Nat} (hS : lw_S sh L) (hl : lw_L i ls) (hi : i + 6 ≤ L) (q1 : r1.1 + 1 ≤ rm.1) (q2 : cs.1 + r1.2.1 ≤ rm.2.1) (q3 : cs.2 + r1.2.2 ≤ rm.2.2) (p1 : r2.1 + 1 ≤ rm.1) (p2 : cs.1 + r1.2.1 + r2.2.1 ≤ rm.2.1) (p3 : cs.2 + r1.2.2 + r2.2.2 ≤ rm.2.2)
    (h : e_T sh YX11_sum r1 0 (e_loc 6 [.inr (.inr (.inl 0))]) [] g (0, 0) (fun v g1 => ∃ x : Int, v = some (.inr (.inl x)) ∧ (g.2 ≤ g1.2 → e_T sh YX12_sum r2 0 (e_loc 5 [.inr (.inr (.inl 4456))]) [] g1 (0, 0) (fun w g2 => w = some (.inr (.inl x)) ∧ (g1.2 ≤ g2.2 → e_T sh YL_law rm 830 ls [] g2 (cs.1 + r1.2.1 + r2.2.1, cs.2 + r1.2.2 + r2.2.2) Q))))) : e_T sh YL_law rm 816 ls [] g cs Q := by
  obtain ⟨l1, l2, l3, l4, l5, l6⟩ := id hl
  obtain ⟨z1, z2, z3, z4, z5⟩ := id hS
  refine e_aload_n (pc := 816) (n := 1) (e_dx DL_law_12 14 rfl) l3 (by decide) ?_
  show e_T sh YL_law rm 817 ls ([].reverse ++ .inr (.inr (.inl 0)) :: []) g cs Q
  refine e_callV (Yc := YX11_sum) (rc := r1) (a := 0) (n := 0) (e_dx DL_law_12 15 rfl) mwX11_sum vwX11_sum cL_109 (by decide) z2 rfl ⟨Nat.le_of_ble_eq_true rfl, Nat.le_of_ble_eq_true rfl⟩ q1 q2 q3 (by decide) (e_T.mono h ?_)
  rintro v g1 ⟨x, rfl, hk⟩
  refine ⟨(fun h => by cases h), fun ht => ?_⟩
  have h2 := hk ht
  show e_T sh YL_law rm 820 ls [.inr (.inl x)] g1 (cs.1 + r1.2.1, cs.2 + r1.2.2) Q
  refine e_aload_n (pc := 820) (n := 2) (e_dx DL_law_12 16 rfl) l4 (by decide) ?_
  show e_T sh YL_law rm 821 ls ([].reverse ++ .inr (.inr (.inl 4456)) :: [.inr (.inl x)]) g1 (cs.1 + r1.2.1, cs.2 + r1.2.2) Q
  refine e_callV (Yc := YX12_sum) (rc := r2) (a := 4456) (n := 0) (e_dx DL_law_12 17 rfl) mwX12_sum vwX12_sum cL_112 (by decide) z3 rfl ⟨Nat.le_of_ble_eq_true rfl, Nat.le_of_ble_eq_true rfl⟩ p1 p2 p3 (Nat.le_of_ble_eq_true rfl) (e_T.mono h2 ?_)
  rintro w g2 ⟨rfl, hk2⟩
  refine ⟨(fun h => by cases h), fun ht2 => ?_⟩
  show e_T sh YL_law rm 824 ls [.inr (.inl x), .inr (.inl x)] g2 (cs.1 + r1.2.1 + r2.2.1, cs.2 + r1.2.2 + r2.2.2) Q
  exact e_lcmp_ (e_dx DL_law_12 18 rfl) (e_if_eq (pc := 825) (tgt := 830) (e_dx DL_law_12 19 rfl) (by decide) (fun _ => hk2 ht2) (fun hne => absurd lw_cmp hne))
theorem e_cut_len {ls : List e_V} {i : Nat} : (e_cut ls i).length = ls.length := by
  unfold e_cut
  split
  · rfl
  · split
    · rw [List.length_set]
    · rfl
theorem e_cut_at {ls : List e_V} {i j : Nat} {w : e_V} (hx : ls[j]? = some w) (hw : ∀ x, w ≠ .inr (.inl x)) : (e_cut ls i)[j]? = some w := by
  unfold e_cut
  split
  · exact hx
  · split
    · rename_i j2 _ x h
      rw [List.getElem?_set_ne (fun e => by subst e; rw [hx] at h; exact hw _ (Option.some.inj h))]
      exact hx
    · exact hx
theorem e_s1_get {ls : List e_V} {i j : Nat} {v w : e_V} (hj : i ≠ j) (hx : ls[j]? = some w) (hw : ∀ x, w ≠ .inr (.inl x)) : (e_s1 ls i v)[j]? = some w := by
  unfold e_s1
  rw [List.getElem?_set_ne hj]
  exact e_cut_at hx hw
theorem e_s1_at {ls : List e_V} {i : Nat} {v : e_V} (hi : i < ls.length) : (e_s1 ls i v)[i]? = some v := by
  unfold e_s1
  rw [List.getElem?_set_self (by rw [e_cut_len]; exact hi)]
theorem e_s2_get {ls : List e_V} {i j : Nat} {v w : e_V} (hj : i ≠ j) (hj2 : i + 1 ≠ j) (hx : ls[j]? = some w) (hw : ∀ x, w ≠ .inr (.inl x)) : (e_s2 ls i v)[j]? = some w := by
  unfold e_s2
  rw [List.getElem?_set_ne hj, List.getElem?_set_ne hj2]
  exact e_cut_at hx hw
theorem e_s2_at {ls : List e_V} {i : Nat} {v : e_V} (hi : i < ls.length) : (e_s2 ls i v)[i]? = some v := by
  unfold e_s2
  rw [List.getElem?_set_self (by rw [List.length_set, e_cut_len]; exact hi)]
theorem lw_nl {y : Int} : ∀ x : Int, (.inl y : e_V) ≠ .inr (.inl x) := fun _ h => by cases h
theorem lw_nr {y : Int} : ∀ x : Int, (.inr (.inr (.inl y)) : e_V) ≠ .inr (.inl x) := fun _ h => by cases h
theorem lw_s1 {ls : List e_V} {i k : Nat} {v : e_V} (hk : 5 ≤ k) (h : lw_L i ls) : lw_L i (e_s1 ls k v) := by
  obtain ⟨l1, l2, l3, l4, l5, l6⟩ := h
  exact ⟨by rw [x_len1]; exact l1, e_s1_get (by omega) l2 lw_nr, e_s1_get (by omega) l3 lw_nr, e_s1_get (by omega) l4 lw_nr, e_s1_get (by omega) l5 lw_nr, e_s1_get (by omega) l6 lw_nl⟩
theorem lw_s2 {ls : List e_V} {i k : Nat} {v : e_V} (hk : 5 ≤ k) (h : lw_L i ls) : lw_L i (e_s2 ls k v) := by
  obtain ⟨l1, l2, l3, l4, l5, l6⟩ := h
  exact ⟨by rw [x_len2]; exact l1, e_s2_get (by omega) (by omega) l2 lw_nr, e_s2_get (by omega) (by omega) l3 lw_nr, e_s2_get (by omega) (by omega) l4 lw_nr, e_s2_get (by omega) (by omega) l5 lw_nr, e_s2_get (by omega) (by omega) l6 lw_nl⟩
theorem law_nco : lw_tbl.all (fun w => match w with | .code y _ _ _ => decide (y.cls ≠ "LandHouseLaw") | _ => true) = true := by decide +kernel
theorem law_ini : Cond.initialized "LandHouseLaw" ∈ e_gd := e_memt (u1 (List.mem_of_getElem? (i := 0) (by decide +kernel))) rfl
theorem law_lk : Cond.classLink "LandHouseLaw" 13 e_NS ∈ e_gd := e_memt (u8 (List.mem_of_getElem? (i := 38) (by decide +kernel))) rfl
theorem law_woctet : Cond.codeWith YL_octet.1 YL_octet.2.1 YL_octet.2.2.1 YL_octet.2.2.2 [(0, 9, 12, 13)] ∈ e_gd := e_memt (u8 (List.mem_of_getElem? (i := 37) rfl)) rfl
theorem law_noctet : Cond.code YL_octet.1 YL_octet.2.1 YL_octet.2.2.1 YL_octet.2.2.2 ∉ e_gd := by
  intro hw
  have h1 := List.all_eq_true.mp law_nco _ (List.mem_filter.mp hw).1
  have h2 : decide (YL_octet.1.cls ≠ "LandHouseLaw") = true := h1
  exact absurd h2 (by decide)
theorem law_soctet : Cond.static YL_octet.1 ∈ e_gd := e_memt (u8 (List.mem_of_getElem? (i := 36) (by decide +kernel))) rfl
theorem law_wname : Cond.codeWith YL_name.1 YL_name.2.1 YL_name.2.2.1 YL_name.2.2.2 [(0, 9, 12, 13)] ∈ e_gd := e_memt (u8 (List.mem_of_getElem? (i := 110) rfl)) rfl
theorem law_nname : Cond.code YL_name.1 YL_name.2.1 YL_name.2.2.1 YL_name.2.2.2 ∉ e_gd := by
  intro hw
  have h1 := List.all_eq_true.mp law_nco _ (List.mem_filter.mp hw).1
  have h2 : decide (YL_name.1.cls ≠ "LandHouseLaw") = true := h1
  exact absurd h2 (by decide)
theorem law_sname : Cond.static YL_name.1 ∈ e_gd := e_memt (u8 (List.mem_of_getElem? (i := 109) (by decide +kernel))) rfl
theorem law_wthing : Cond.codeWith YL_thing.1 YL_thing.2.1 YL_thing.2.2.1 YL_thing.2.2.2 [(0, 12, 15, 13)] ∈ e_gd := e_memt (u8 (List.mem_of_getElem? (i := 123) rfl)) rfl
theorem law_nthing : Cond.code YL_thing.1 YL_thing.2.1 YL_thing.2.2.1 YL_thing.2.2.2 ∉ e_gd := by
  intro hw
  have h1 := List.all_eq_true.mp law_nco _ (List.mem_filter.mp hw).1
  have h2 : decide (YL_thing.1.cls ≠ "LandHouseLaw") = true := h1
  exact absurd h2 (by decide)
theorem law_sthing : Cond.static YL_thing.1 ∈ e_gd := e_memt (u8 (List.mem_of_getElem? (i := 122) (by decide +kernel))) rfl
theorem law_wcorner : Cond.codeWith YL_corner.1 YL_corner.2.1 YL_corner.2.2.1 YL_corner.2.2.2 [(0, 12, 15, 13)] ∈ e_gd := e_memt (u8 (List.mem_of_getElem? (i := 131) rfl)) rfl
theorem law_ncorner : Cond.code YL_corner.1 YL_corner.2.1 YL_corner.2.2.1 YL_corner.2.2.2 ∉ e_gd := by
  intro hw
  have h1 := List.all_eq_true.mp law_nco _ (List.mem_filter.mp hw).1
  have h2 : decide (YL_corner.1.cls ≠ "LandHouseLaw") = true := h1
  exact absurd h2 (by decide)
theorem law_scorner : Cond.static YL_corner.1 ∈ e_gd := e_memt (u8 (List.mem_of_getElem? (i := 130) (by decide +kernel))) rfl
theorem law_wowner : Cond.codeWith YL_owner.1 YL_owner.2.1 YL_owner.2.2.1 YL_owner.2.2.2 [(0, 12, 15, 13)] ∈ e_gd := e_memt (u8 (List.mem_of_getElem? (i := 140) rfl)) rfl
theorem law_nowner : Cond.code YL_owner.1 YL_owner.2.1 YL_owner.2.2.1 YL_owner.2.2.2 ∉ e_gd := by
  intro hw
  have h1 := List.all_eq_true.mp law_nco _ (List.mem_filter.mp hw).1
  have h2 : decide (YL_owner.1.cls ≠ "LandHouseLaw") = true := h1
  exact absurd h2 (by decide)
theorem law_sowner : Cond.static YL_owner.1 ∈ e_gd := e_memt (u8 (List.mem_of_getElem? (i := 139) (by decide +kernel))) rfl
/-- octet -/
theorem law_octet {ls : List e_V} {r1 r2 r3 : Nat × Nat × Nat} (hS : lw_S sh L) (hl : lw_L i ls) (hi : i + 6 ≤ L) (q1 : r1.1 + 1 ≤ rm.1) (q2 : cs.1 + r1.2.1 ≤ rm.2.1) (q3 : cs.2 + r1.2.2 ≤ rm.2.2) (p1 : r2.1 + 1 ≤ rm.1) (p2 : cs.1 + r1.2.1 + r2.2.1 ≤ rm.2.1) (p3 : cs.2 + r1.2.2 + r2.2.2 ≤ rm.2.2) (o1 : r3.1 + 1 ≤ rm.1) (o2 : cs.1 + r1.2.1 + r2.2.1 + r3.2.1 ≤ rm.2.1) (o3 : cs.2 + r1.2.2 + r2.2.2 + r3.2.2 ≤ rm.2.2)
    (h : e_T sh YL_octet r1 0 (e_loc 4 [.inr (.inr (.inl 0)), .inl (g.1 1000000 (i + 1)), .inr (.inr (.inl 4533))]) [] g (0, 0) (fun v g1 => ∃ b : Int, v = some (.inl b) ∧ (g.2 ≤ g1.2 → e_T sh YX12_octet r2 0 (e_loc 2 [.inr (.inr (.inl 4456)), .inl (g1.1 1000000 (i + 1))]) [] g1 (0, 0) (fun w g2 => ∃ y : Int, w = some (.inl y) ∧ (g1.2 ≤ g2.2 → e_T sh YX12_thrown r3 0 (e_loc 1 [.inr (.inr (.inl 4456))]) [] g2 (0, 0) (fun u g3 => u = some (.inl b) ∧ (b = 0 → g3.1 4533 0 = y) ∧ (g2.2 ≤ g3.2 → ∀ ls2, lw_L i ls2 → e_T sh YL_law rm 830 ls2 [] g3 (cs.1 + r1.2.1 + r2.2.1 + r3.2.1, cs.2 + r1.2.2 + r2.2.2 + r3.2.2) Q))))))) : e_T sh YL_law rm 379 ls [] g cs Q := by
  obtain ⟨l1, l2, l3, l4, l5, l6⟩ := id hl
  obtain ⟨z1, z2, z3, z4, z5⟩ := id hS
  refine e_aload_n (pc := 379) (n := 1) (e_dx DL_law_4 36 rfl) l3 (by decide) ?_
  refine lw_ld (pc := 380) (c := 1) (e_dx DL_law_4 37 rfl) (e_dx DL_law_4 38 rfl) (e_dx DL_law_4 39 rfl) (e_dx DL_law_5 0 rfl) (e_dx DL_law_5 1 rfl) hS hl rfl (by omega) ?_
  refine e_aload_n (pc := 386) (n := 3) (e_dx DL_law_5 2 rfl) l5 (by decide) ?_
  show e_T sh YL_law rm 387 ls ([.inr (.inr (.inl 0)), .inl (g.1 1000000 (i + 1)), .inr (.inr (.inl 4533))].reverse ++ []) g cs Q
  refine e_callSH (Yc := YL_octet) (rc := r1) (n := 3) (e_dx DL_law_5 3 rfl) (by decide +kernel) law_woctet law_noctet law_ini ⟨by decide, by decide, by decide +kernel⟩ cL_78 law_soctet rfl ⟨Nat.le_of_ble_eq_true rfl, Nat.le_of_ble_eq_true rfl⟩ q1 q2 q3 (by decide) (e_T.mono h ?_)
  rintro v g1 ⟨b, rfl, hk⟩
  refine ⟨(fun h => by cases h), fun ht => ?_⟩
  have h2 := hk ht
  show e_T sh YL_law rm 390 ls [.inl b] g1 (cs.1 + r1.2.1, cs.2 + r1.2.2) Q
  refine e_istore (pc := 390) (e_dx DL_law_5 4 rfl) (by decide) ?_
  have hb : (e_s1 ls 5 (.inl b))[5]? = some (.inl b) := e_s1_at (by rw [l1]; decide)
  have hl := lw_s1 (k := 5) (v := .inl b) (Nat.le_refl 5) hl
  obtain ⟨l1, l2, l3, l4, l5, l6⟩ := id hl
  refine e_aload_n (pc := 392) (n := 2) (e_dx DL_law_5 5 rfl) l4 (by decide) ?_
  refine lw_ld (pc := 393) (c := 1) (e_dx DL_law_5 6 rfl) (e_dx DL_law_5 7 rfl) (e_dx DL_law_5 8 rfl) (e_dx DL_law_5 9 rfl) (e_dx DL_law_5 10 rfl) hS hl rfl (by omega) ?_
  show e_T sh YL_law rm 399 (e_s1 ls 5 (.inl b)) ([.inl (g1.1 1000000 (i + 1))].reverse ++ .inr (.inr (.inl 4456)) :: []) g1 (cs.1 + r1.2.1, cs.2 + r1.2.2) Q
  refine e_callV (Yc := YX12_octet) (rc := r2) (a := 4456) (n := 1) (e_dx DL_law_5 11 rfl) mwX12_octet vwX12_octet cL_83 (by decide) z3 rfl ⟨Nat.le_of_ble_eq_true rfl, Nat.le_of_ble_eq_true rfl⟩ p1 p2 p3 (Nat.le_of_ble_eq_true rfl) (e_T.mono h2 ?_)
  rintro w g2 ⟨y, rfl, hk2⟩
  refine ⟨(fun h => by cases h), fun ht2 => ?_⟩
  have h3 := hk2 ht2
  show e_T sh YL_law rm 402 (e_s1 ls 5 (.inl b)) [.inl y] g2 (cs.1 + r1.2.1 + r2.2.1, cs.2 + r1.2.2 + r2.2.2) Q
  refine e_istore (pc := 402) (e_dx DL_law_5 12 rfl) (by decide) ?_
  have hb : (e_s1 (e_s1 ls 5 (.inl b)) 6 (.inl y))[5]? = some (.inl b) := e_s1_get (by decide) hb lw_nl
  have hy : (e_s1 (e_s1 ls 5 (.inl b)) 6 (.inl y))[6]? = some (.inl y) := e_s1_at (by rw [l1]; decide)
  have hl := lw_s1 (k := 6) (v := .inl y) (by decide) hl
  obtain ⟨l1, l2, l3, l4, l5, l6⟩ := id hl
  refine e_aload_n (pc := 404) (n := 2) (e_dx DL_law_5 13 rfl) l4 (by decide) ?_
  show e_T sh YL_law rm 405 (e_s1 (e_s1 ls 5 (.inl b)) 6 (.inl y)) (([] : List e_V).reverse ++ .inr (.inr (.inl 4456)) :: []) g2 (cs.1 + r1.2.1 + r2.2.1, cs.2 + r1.2.2 + r2.2.2) Q
  refine e_callV (Yc := YX12_thrown) (rc := r3) (a := 4456) (n := 0) (e_dx DL_law_5 14 rfl) mwX12_thrown vwX12_thrown cL_84 (by decide) z3 rfl ⟨Nat.le_of_ble_eq_true rfl, Nat.le_of_ble_eq_true rfl⟩ o1 o2 o3 (Nat.le_of_ble_eq_true rfl) (e_T.mono h3 ?_)
  rintro u g3 ⟨rfl, hv, hk3⟩
  refine ⟨(fun h => by cases h), fun ht3 => ?_⟩
  have h4 := hk3 ht3
  show e_T sh YL_law rm 408 (e_s1 (e_s1 ls 5 (.inl b)) 6 (.inl y)) [.inl b] g3 (cs.1 + r1.2.1 + r2.2.1 + r3.2.1, cs.2 + r1.2.2 + r2.2.2 + r3.2.2) Q
  refine e_iload (pc := 408) (e_dx DL_law_5 15 rfl) hb (e_icmp_eq (tgt := 415) (e_dx DL_law_5 16 rfl) (by decide) (fun _ => ?_) (fun hne => absurd rfl hne))
  refine e_iload (pc := 415) (e_dx DL_law_5 19 rfl) hb (e_if_ne (tgt := 432) (e_dx DL_law_5 20 rfl) (by decide) (fun _ => e_goto (pc := 432) (tgt := 830) (e_dx DL_law_5 30 rfl) (by decide) (h4 _ hl)) (fun hb0 => ?_))
  refine e_aload_n (pc := 420) (n := 3) (e_dx DL_law_5 21 rfl) l5 (by decide) (e_iconst (e_dx DL_law_5 22 rfl) ⟨by decide, by decide⟩ (e_lald (a := 4533) (i := 0) (e_dx DL_law_5 23 rfl) (by decide) (by show (sh 4533).1 = 23; rw [z4]) ⟨by decide, by show (0 : Int) < ((sh 4533).2 : Int); rw [z4]; decide⟩ ?_))
  show e_T sh YL_law rm 423 (e_s1 (e_s1 ls 5 (.inl b)) 6 (.inl y)) [.inr (.inl (g3.1 4533 0))] g3 (cs.1 + r1.2.1 + r2.2.1 + r3.2.1, cs.2 + r1.2.2 + r2.2.2 + r3.2.2) Q
  rw [hv hb0]
  refine e_iload (pc := 423) (e_dx DL_law_5 24 rfl) hy (e_i2l_ (e_dx DL_law_5 25 rfl) ?_)
  exact e_lcmp_ (pc := 426) (e_dx DL_law_5 26 rfl) (e_if_eq (tgt := 432) (e_dx DL_law_5 27 rfl) (by decide) (fun _ => e_goto (pc := 432) (tgt := 830) (e_dx DL_law_5 30 rfl) (by decide) (h4 _ hl)) (fun hne => absurd lw_cmp hne))
/-- name -/
theorem law_name {ls : List e_V} {r1 r2 r3 : Nat × Nat × Nat} (hS : lw_S sh L) (hl : lw_L i ls) (hi : i + 6 ≤ L) (q1 : r1.1 + 1 ≤ rm.1) (q2 : cs.1 + r1.2.1 ≤ rm.2.1) (q3 : cs.2 + r1.2.2 ≤ rm.2.2) (p1 : r2.1 + 1 ≤ rm.1) (p2 : cs.1 + r1.2.1 + r2.2.1 ≤ rm.2.1) (p3 : cs.2 + r1.2.2 + r2.2.2 ≤ rm.2.2) (o1 : r3.1 + 1 ≤ rm.1) (o2 : cs.1 + r1.2.1 + r2.2.1 + r3.2.1 ≤ rm.2.1) (o3 : cs.2 + r1.2.2 + r2.2.2 + r3.2.2 ≤ rm.2.2)
    (h : e_T sh YL_name r1 0 (e_loc 5 [.inr (.inr (.inl 0)), .inl (g.1 1000000 (i + 1)), .inl (g.1 1000000 (i + 2)), .inr (.inr (.inl 4533))]) [] g (0, 0) (fun v g1 => ∃ b : Int, v = some (.inl b) ∧ (g.2 ≤ g1.2 → e_T sh YX12_name r2 0 (e_loc 4 [.inr (.inr (.inl 4456)), .inl (g1.1 1000000 (i + 1)), .inl (g1.1 1000000 (i + 2))]) [] g1 (0, 0) (fun w g2 => ∃ y : Int, w = some (.inr (.inl y)) ∧ (g1.2 ≤ g2.2 → e_T sh YX12_thrown r3 0 (e_loc 1 [.inr (.inr (.inl 4456))]) [] g2 (0, 0) (fun u g3 => u = some (.inl b) ∧ (b = 0 → g3.1 4533 0 = y) ∧ (g2.2 ≤ g3.2 → ∀ ls2, lw_L i ls2 → e_T sh YL_law rm 830 ls2 [] g3 (cs.1 + r1.2.1 + r2.2.1 + r3.2.1, cs.2 + r1.2.2 + r2.2.2 + r3.2.2) Q))))))) : e_T sh YL_law rm 460 ls [] g cs Q := by
  obtain ⟨l1, l2, l3, l4, l5, l6⟩ := id hl
  obtain ⟨z1, z2, z3, z4, z5⟩ := id hS
  refine e_aload_n (pc := 460) (n := 1) (e_dx DL_law_6 8 rfl) l3 (by decide) ?_
  refine lw_ld (pc := 461) (c := 1) (e_dx DL_law_6 9 rfl) (e_dx DL_law_6 10 rfl) (e_dx DL_law_6 11 rfl) (e_dx DL_law_6 12 rfl) (e_dx DL_law_6 13 rfl) hS hl rfl (by omega) ?_
  refine lw_ld (pc := 467) (c := 2) (e_dx DL_law_6 14 rfl) (e_dx DL_law_6 15 rfl) (e_dx DL_law_6 16 rfl) (e_dx DL_law_6 17 rfl) (e_dx DL_law_6 18 rfl) hS hl rfl (by omega) ?_
  refine e_aload_n (pc := 473) (n := 3) (e_dx DL_law_6 19 rfl) l5 (by decide) ?_
  show e_T sh YL_law rm 474 ls ([.inr (.inr (.inl 0)), .inl (g.1 1000000 (i + 1)), .inl (g.1 1000000 (i + 2)), .inr (.inr (.inl 4533))].reverse ++ []) g cs Q
  refine e_callSH (Yc := YL_name) (rc := r1) (n := 4) (e_dx DL_law_6 20 rfl) (by decide +kernel) law_wname law_nname law_ini ⟨by decide, by decide, by decide +kernel⟩ cL_91 law_sname rfl ⟨Nat.le_of_ble_eq_true rfl, Nat.le_of_ble_eq_true rfl⟩ q1 q2 q3 (by decide) (e_T.mono h ?_)
  rintro v g1 ⟨b, rfl, hk⟩
  refine ⟨(fun h => by cases h), fun ht => ?_⟩
  have h2 := hk ht
  show e_T sh YL_law rm 477 ls [.inl b] g1 (cs.1 + r1.2.1, cs.2 + r1.2.2) Q
  refine e_istore (pc := 477) (e_dx DL_law_6 21 rfl) (by decide) ?_
  have hb : (e_s1 ls 5 (.inl b))[5]? = some (.inl b) := e_s1_at (by rw [l1]; decide)
  have hl := lw_s1 (k := 5) (v := .inl b) (Nat.le_refl 5) hl
  obtain ⟨l1, l2, l3, l4, l5, l6⟩ := id hl
  refine e_aload_n (pc := 479) (n := 2) (e_dx DL_law_6 22 rfl) l4 (by decide) ?_
  refine lw_ld (pc := 480) (c := 1) (e_dx DL_law_6 23 rfl) (e_dx DL_law_6 24 rfl) (e_dx DL_law_6 25 rfl) (e_dx DL_law_6 26 rfl) (e_dx DL_law_6 27 rfl) hS hl rfl (by omega) ?_
  refine lw_ld (pc := 486) (c := 2) (e_dx DL_law_6 28 rfl) (e_dx DL_law_6 29 rfl) (e_dx DL_law_6 30 rfl) (e_dx DL_law_6 31 rfl) (e_dx DL_law_6 32 rfl) hS hl rfl (by omega) ?_
  show e_T sh YL_law rm 492 (e_s1 ls 5 (.inl b)) ([.inl (g1.1 1000000 (i + 1)), .inl (g1.1 1000000 (i + 2))].reverse ++ .inr (.inr (.inl 4456)) :: []) g1 (cs.1 + r1.2.1, cs.2 + r1.2.2) Q
  refine e_callV (Yc := YX12_name) (rc := r2) (a := 4456) (n := 2) (e_dx DL_law_6 33 rfl) mwX12_name vwX12_name cL_94 (by decide) z3 rfl ⟨Nat.le_of_ble_eq_true rfl, Nat.le_of_ble_eq_true rfl⟩ p1 p2 p3 (Nat.le_of_ble_eq_true rfl) (e_T.mono h2 ?_)
  rintro w g2 ⟨y, rfl, hk2⟩
  refine ⟨(fun h => by cases h), fun ht2 => ?_⟩
  have h3 := hk2 ht2
  show e_T sh YL_law rm 495 (e_s1 ls 5 (.inl b)) [.inr (.inl y)] g2 (cs.1 + r1.2.1 + r2.2.1, cs.2 + r1.2.2 + r2.2.2) Q
  refine e_lstore (pc := 495) (e_dx DL_law_6 34 rfl) (by decide) ?_
  have hb : (e_s2 (e_s1 ls 5 (.inl b)) 6 (.inr (.inl y)))[5]? = some (.inl b) := e_s2_get (by decide) (by decide) hb lw_nl
  have hy : (e_s2 (e_s1 ls 5 (.inl b)) 6 (.inr (.inl y)))[6]? = some (.inr (.inl y)) := e_s2_at (by rw [l1]; decide)
  have hl := lw_s2 (k := 6) (v := .inr (.inl y)) (by decide) hl
  obtain ⟨l1, l2, l3, l4, l5, l6⟩ := id hl
  refine e_aload_n (pc := 497) (n := 2) (e_dx DL_law_6 35 rfl) l4 (by decide) ?_
  show e_T sh YL_law rm 498 (e_s2 (e_s1 ls 5 (.inl b)) 6 (.inr (.inl y))) (([] : List e_V).reverse ++ .inr (.inr (.inl 4456)) :: []) g2 (cs.1 + r1.2.1 + r2.2.1, cs.2 + r1.2.2 + r2.2.2) Q
  refine e_callV (Yc := YX12_thrown) (rc := r3) (a := 4456) (n := 0) (e_dx DL_law_6 36 rfl) mwX12_thrown vwX12_thrown cL_84 (by decide) z3 rfl ⟨Nat.le_of_ble_eq_true rfl, Nat.le_of_ble_eq_true rfl⟩ o1 o2 o3 (Nat.le_of_ble_eq_true rfl) (e_T.mono h3 ?_)
  rintro u g3 ⟨rfl, hv, hk3⟩
  refine ⟨(fun h => by cases h), fun ht3 => ?_⟩
  have h4 := hk3 ht3
  show e_T sh YL_law rm 501 (e_s2 (e_s1 ls 5 (.inl b)) 6 (.inr (.inl y))) [.inl b] g3 (cs.1 + r1.2.1 + r2.2.1 + r3.2.1, cs.2 + r1.2.2 + r2.2.2 + r3.2.2) Q
  refine e_iload (pc := 501) (e_dx DL_law_6 37 rfl) hb (e_icmp_eq (tgt := 508) (e_dx DL_law_6 38 rfl) (by decide) (fun _ => ?_) (fun hne => absurd rfl hne))
  refine e_iload (pc := 508) (e_dx DL_law_7 1 rfl) hb (e_if_ne (tgt := 524) (e_dx DL_law_7 2 rfl) (by decide) (fun _ => e_goto (pc := 524) (tgt := 830) (e_dx DL_law_7 11 rfl) (by decide) (h4 _ hl)) (fun hb0 => ?_))
  refine e_aload_n (pc := 513) (n := 3) (e_dx DL_law_7 3 rfl) l5 (by decide) (e_iconst (e_dx DL_law_7 4 rfl) ⟨by decide, by decide⟩ (e_lald (a := 4533) (i := 0) (e_dx DL_law_7 5 rfl) (by decide) (by show (sh 4533).1 = 23; rw [z4]) ⟨by decide, by show (0 : Int) < ((sh 4533).2 : Int); rw [z4]; decide⟩ ?_))
  show e_T sh YL_law rm 516 (e_s2 (e_s1 ls 5 (.inl b)) 6 (.inr (.inl y))) [.inr (.inl (g3.1 4533 0))] g3 (cs.1 + r1.2.1 + r2.2.1 + r3.2.1, cs.2 + r1.2.2 + r2.2.2 + r3.2.2) Q
  rw [hv hb0]
  refine e_lload (pc := 516) (e_dx DL_law_7 6 rfl) hy ?_
  exact e_lcmp_ (pc := 518) (e_dx DL_law_7 7 rfl) (e_if_eq (tgt := 524) (e_dx DL_law_7 8 rfl) (by decide) (fun _ => e_goto (pc := 524) (tgt := 830) (e_dx DL_law_7 11 rfl) (by decide) (h4 _ hl)) (fun hne => absurd lw_cmp hne))
/-- thing -/
theorem law_thing {ls : List e_V} {r1 r2 r3 : Nat × Nat × Nat} (hS : lw_S sh L) (hl : lw_L i ls) (hi : i + 6 ≤ L) (q1 : r1.1 + 1 ≤ rm.1) (q2 : cs.1 + r1.2.1 ≤ rm.2.1) (q3 : cs.2 + r1.2.2 ≤ rm.2.2) (p1 : r2.1 + 1 ≤ rm.1) (p2 : cs.1 + r1.2.1 + r2.2.1 ≤ rm.2.1) (p3 : cs.2 + r1.2.2 + r2.2.2 ≤ rm.2.2) (o1 : r3.1 + 1 ≤ rm.1) (o2 : cs.1 + r1.2.1 + r2.2.1 + r3.2.1 ≤ rm.2.1) (o3 : cs.2 + r1.2.2 + r2.2.2 + r3.2.2 ≤ rm.2.2)
    (h : e_T sh YL_thing r1 0 (e_loc 6 [.inr (.inr (.inl 0)), .inl (g.1 1000000 (i + 1)), .inl (g.1 1000000 (i + 2)), .inl (g.1 1000000 (i + 3)), .inr (.inr (.inl 4533))]) [] g (0, 0) (fun v g1 => ∃ b : Int, v = some (.inl b) ∧ (g.2 ≤ g1.2 → e_T sh YX12_thing r2 0 (e_loc 5 [.inr (.inr (.inl 4456)), .inl (g1.1 1000000 (i + 1)), .inl (g1.1 1000000 (i + 2)), .inl (g1.1 1000000 (i + 3))]) [] g1 (0, 0) (fun w g2 => ∃ y : Int, w = some (.inl y) ∧ (g1.2 ≤ g2.2 → e_T sh YX12_thrown r3 0 (e_loc 1 [.inr (.inr (.inl 4456))]) [] g2 (0, 0) (fun u g3 => u = some (.inl b) ∧ (b = 0 → g3.1 4533 0 = y) ∧ (g2.2 ≤ g3.2 → ∀ ls2, lw_L i ls2 → e_T sh YL_law rm 830 ls2 [] g3 (cs.1 + r1.2.1 + r2.2.1 + r3.2.1, cs.2 + r1.2.2 + r2.2.2 + r3.2.2) Q))))))) : e_T sh YL_law rm 527 ls [] g cs Q := by
  obtain ⟨l1, l2, l3, l4, l5, l6⟩ := id hl
  obtain ⟨z1, z2, z3, z4, z5⟩ := id hS
  refine e_aload_n (pc := 527) (n := 1) (e_dx DL_law_7 12 rfl) l3 (by decide) ?_
  refine lw_ld (pc := 528) (c := 1) (e_dx DL_law_7 13 rfl) (e_dx DL_law_7 14 rfl) (e_dx DL_law_7 15 rfl) (e_dx DL_law_7 16 rfl) (e_dx DL_law_7 17 rfl) hS hl rfl (by omega) ?_
  refine lw_ld (pc := 534) (c := 2) (e_dx DL_law_7 18 rfl) (e_dx DL_law_7 19 rfl) (e_dx DL_law_7 20 rfl) (e_dx DL_law_7 21 rfl) (e_dx DL_law_7 22 rfl) hS hl rfl (by omega) ?_
  refine lw_ld (pc := 540) (c := 3) (e_dx DL_law_7 23 rfl) (e_dx DL_law_7 24 rfl) (e_dx DL_law_7 25 rfl) (e_dx DL_law_7 26 rfl) (e_dx DL_law_7 27 rfl) hS hl rfl (by omega) ?_
  refine e_aload_n (pc := 546) (n := 3) (e_dx DL_law_7 28 rfl) l5 (by decide) ?_
  show e_T sh YL_law rm 547 ls ([.inr (.inr (.inl 0)), .inl (g.1 1000000 (i + 1)), .inl (g.1 1000000 (i + 2)), .inl (g.1 1000000 (i + 3)), .inr (.inr (.inl 4533))].reverse ++ []) g cs Q
  refine e_callSH (Yc := YL_thing) (rc := r1) (n := 5) (e_dx DL_law_7 29 rfl) (by decide +kernel) law_wthing law_nthing law_ini ⟨by decide, by decide, by decide +kernel⟩ cL_95 law_sthing rfl ⟨Nat.le_of_ble_eq_true rfl, Nat.le_of_ble_eq_true rfl⟩ q1 q2 q3 (by decide) (e_T.mono h ?_)
  rintro v g1 ⟨b, rfl, hk⟩
  refine ⟨(fun h => by cases h), fun ht => ?_⟩
  have h2 := hk ht
  show e_T sh YL_law rm 550 ls [.inl b] g1 (cs.1 + r1.2.1, cs.2 + r1.2.2) Q
  refine e_istore (pc := 550) (e_dx DL_law_7 30 rfl) (by decide) ?_
  have hb : (e_s1 ls 5 (.inl b))[5]? = some (.inl b) := e_s1_at (by rw [l1]; decide)
  have hl := lw_s1 (k := 5) (v := .inl b) (Nat.le_refl 5) hl
  obtain ⟨l1, l2, l3, l4, l5, l6⟩ := id hl
  refine e_aload_n (pc := 552) (n := 2) (e_dx DL_law_7 31 rfl) l4 (by decide) ?_
  refine lw_ld (pc := 553) (c := 1) (e_dx DL_law_7 32 rfl) (e_dx DL_law_7 33 rfl) (e_dx DL_law_7 34 rfl) (e_dx DL_law_7 35 rfl) (e_dx DL_law_7 36 rfl) hS hl rfl (by omega) ?_
  refine lw_ld (pc := 559) (c := 2) (e_dx DL_law_7 37 rfl) (e_dx DL_law_7 38 rfl) (e_dx DL_law_7 39 rfl) (e_dx DL_law_8 0 rfl) (e_dx DL_law_8 1 rfl) hS hl rfl (by omega) ?_
  refine lw_ld (pc := 565) (c := 3) (e_dx DL_law_8 2 rfl) (e_dx DL_law_8 3 rfl) (e_dx DL_law_8 4 rfl) (e_dx DL_law_8 5 rfl) (e_dx DL_law_8 6 rfl) hS hl rfl (by omega) ?_
  show e_T sh YL_law rm 571 (e_s1 ls 5 (.inl b)) ([.inl (g1.1 1000000 (i + 1)), .inl (g1.1 1000000 (i + 2)), .inl (g1.1 1000000 (i + 3))].reverse ++ .inr (.inr (.inl 4456)) :: []) g1 (cs.1 + r1.2.1, cs.2 + r1.2.2) Q
  refine e_callV (Yc := YX12_thing) (rc := r2) (a := 4456) (n := 3) (e_dx DL_law_8 7 rfl) mwX12_thing vwX12_thing cL_98 (by decide) z3 rfl ⟨Nat.le_of_ble_eq_true rfl, Nat.le_of_ble_eq_true rfl⟩ p1 p2 p3 (Nat.le_of_ble_eq_true rfl) (e_T.mono h2 ?_)
  rintro w g2 ⟨y, rfl, hk2⟩
  refine ⟨(fun h => by cases h), fun ht2 => ?_⟩
  have h3 := hk2 ht2
  show e_T sh YL_law rm 574 (e_s1 ls 5 (.inl b)) [.inl y] g2 (cs.1 + r1.2.1 + r2.2.1, cs.2 + r1.2.2 + r2.2.2) Q
  refine e_istore (pc := 574) (e_dx DL_law_8 8 rfl) (by decide) ?_
  have hb : (e_s1 (e_s1 ls 5 (.inl b)) 6 (.inl y))[5]? = some (.inl b) := e_s1_get (by decide) hb lw_nl
  have hy : (e_s1 (e_s1 ls 5 (.inl b)) 6 (.inl y))[6]? = some (.inl y) := e_s1_at (by rw [l1]; decide)
  have hl := lw_s1 (k := 6) (v := .inl y) (by decide) hl
  obtain ⟨l1, l2, l3, l4, l5, l6⟩ := id hl
  refine e_aload_n (pc := 576) (n := 2) (e_dx DL_law_8 9 rfl) l4 (by decide) ?_
  show e_T sh YL_law rm 577 (e_s1 (e_s1 ls 5 (.inl b)) 6 (.inl y)) (([] : List e_V).reverse ++ .inr (.inr (.inl 4456)) :: []) g2 (cs.1 + r1.2.1 + r2.2.1, cs.2 + r1.2.2 + r2.2.2) Q
  refine e_callV (Yc := YX12_thrown) (rc := r3) (a := 4456) (n := 0) (e_dx DL_law_8 10 rfl) mwX12_thrown vwX12_thrown cL_84 (by decide) z3 rfl ⟨Nat.le_of_ble_eq_true rfl, Nat.le_of_ble_eq_true rfl⟩ o1 o2 o3 (Nat.le_of_ble_eq_true rfl) (e_T.mono h3 ?_)
  rintro u g3 ⟨rfl, hv, hk3⟩
  refine ⟨(fun h => by cases h), fun ht3 => ?_⟩
  have h4 := hk3 ht3
  show e_T sh YL_law rm 580 (e_s1 (e_s1 ls 5 (.inl b)) 6 (.inl y)) [.inl b] g3 (cs.1 + r1.2.1 + r2.2.1 + r3.2.1, cs.2 + r1.2.2 + r2.2.2 + r3.2.2) Q
  refine e_iload (pc := 580) (e_dx DL_law_8 11 rfl) hb (e_icmp_eq (tgt := 587) (e_dx DL_law_8 12 rfl) (by decide) (fun _ => ?_) (fun hne => absurd rfl hne))
  refine e_iload (pc := 587) (e_dx DL_law_8 15 rfl) hb (e_if_ne (tgt := 604) (e_dx DL_law_8 16 rfl) (by decide) (fun _ => e_goto (pc := 604) (tgt := 830) (e_dx DL_law_8 26 rfl) (by decide) (h4 _ hl)) (fun hb0 => ?_))
  refine e_aload_n (pc := 592) (n := 3) (e_dx DL_law_8 17 rfl) l5 (by decide) (e_iconst (e_dx DL_law_8 18 rfl) ⟨by decide, by decide⟩ (e_lald (a := 4533) (i := 0) (e_dx DL_law_8 19 rfl) (by decide) (by show (sh 4533).1 = 23; rw [z4]) ⟨by decide, by show (0 : Int) < ((sh 4533).2 : Int); rw [z4]; decide⟩ ?_))
  show e_T sh YL_law rm 595 (e_s1 (e_s1 ls 5 (.inl b)) 6 (.inl y)) [.inr (.inl (g3.1 4533 0))] g3 (cs.1 + r1.2.1 + r2.2.1 + r3.2.1, cs.2 + r1.2.2 + r2.2.2 + r3.2.2) Q
  rw [hv hb0]
  refine e_iload (pc := 595) (e_dx DL_law_8 20 rfl) hy (e_i2l_ (e_dx DL_law_8 21 rfl) ?_)
  exact e_lcmp_ (pc := 598) (e_dx DL_law_8 22 rfl) (e_if_eq (tgt := 604) (e_dx DL_law_8 23 rfl) (by decide) (fun _ => e_goto (pc := 604) (tgt := 830) (e_dx DL_law_8 26 rfl) (by decide) (h4 _ hl)) (fun hne => absurd lw_cmp hne))
/-- corner -/
theorem law_corner {ls : List e_V} {r1 r2 r3 : Nat × Nat × Nat} (hS : lw_S sh L) (hl : lw_L i ls) (hi : i + 6 ≤ L) (q1 : r1.1 + 1 ≤ rm.1) (q2 : cs.1 + r1.2.1 ≤ rm.2.1) (q3 : cs.2 + r1.2.2 ≤ rm.2.2) (p1 : r2.1 + 1 ≤ rm.1) (p2 : cs.1 + r1.2.1 + r2.2.1 ≤ rm.2.1) (p3 : cs.2 + r1.2.2 + r2.2.2 ≤ rm.2.2) (o1 : r3.1 + 1 ≤ rm.1) (o2 : cs.1 + r1.2.1 + r2.2.1 + r3.2.1 ≤ rm.2.1) (o3 : cs.2 + r1.2.2 + r2.2.2 + r3.2.2 ≤ rm.2.2)
    (h : e_T sh YL_corner r1 0 (e_loc 6 [.inr (.inr (.inl 0)), .inl (g.1 1000000 (i + 1)), .inl (g.1 1000000 (i + 2)), .inl (g.1 1000000 (i + 3)), .inr (.inr (.inl 4533))]) [] g (0, 0) (fun v g1 => ∃ b : Int, v = some (.inl b) ∧ (g.2 ≤ g1.2 → e_T sh YX12_corner r2 0 (e_loc 5 [.inr (.inr (.inl 4456)), .inl (g1.1 1000000 (i + 1)), .inl (g1.1 1000000 (i + 2)), .inl (g1.1 1000000 (i + 3))]) [] g1 (0, 0) (fun w g2 => ∃ y : Int, w = some (.inl y) ∧ (g1.2 ≤ g2.2 → e_T sh YX12_thrown r3 0 (e_loc 1 [.inr (.inr (.inl 4456))]) [] g2 (0, 0) (fun u g3 => u = some (.inl b) ∧ (b = 0 → g3.1 4533 0 = y) ∧ (g2.2 ≤ g3.2 → ∀ ls2, lw_L i ls2 → e_T sh YL_law rm 830 ls2 [] g3 (cs.1 + r1.2.1 + r2.2.1 + r3.2.1, cs.2 + r1.2.2 + r2.2.2 + r3.2.2) Q))))))) : e_T sh YL_law rm 607 ls [] g cs Q := by
  obtain ⟨l1, l2, l3, l4, l5, l6⟩ := id hl
  obtain ⟨z1, z2, z3, z4, z5⟩ := id hS
  refine e_aload_n (pc := 607) (n := 1) (e_dx DL_law_8 27 rfl) l3 (by decide) ?_
  refine lw_ld (pc := 608) (c := 1) (e_dx DL_law_8 28 rfl) (e_dx DL_law_8 29 rfl) (e_dx DL_law_8 30 rfl) (e_dx DL_law_8 31 rfl) (e_dx DL_law_8 32 rfl) hS hl rfl (by omega) ?_
  refine lw_ld (pc := 614) (c := 2) (e_dx DL_law_8 33 rfl) (e_dx DL_law_8 34 rfl) (e_dx DL_law_8 35 rfl) (e_dx DL_law_8 36 rfl) (e_dx DL_law_8 37 rfl) hS hl rfl (by omega) ?_
  refine lw_ld (pc := 620) (c := 3) (e_dx DL_law_8 38 rfl) (e_dx DL_law_8 39 rfl) (e_dx DL_law_9 0 rfl) (e_dx DL_law_9 1 rfl) (e_dx DL_law_9 2 rfl) hS hl rfl (by omega) ?_
  refine e_aload_n (pc := 626) (n := 3) (e_dx DL_law_9 3 rfl) l5 (by decide) ?_
  show e_T sh YL_law rm 627 ls ([.inr (.inr (.inl 0)), .inl (g.1 1000000 (i + 1)), .inl (g.1 1000000 (i + 2)), .inl (g.1 1000000 (i + 3)), .inr (.inr (.inl 4533))].reverse ++ []) g cs Q
  refine e_callSH (Yc := YL_corner) (rc := r1) (n := 5) (e_dx DL_law_9 4 rfl) (by decide +kernel) law_wcorner law_ncorner law_ini ⟨by decide, by decide, by decide +kernel⟩ cL_99 law_scorner rfl ⟨Nat.le_of_ble_eq_true rfl, Nat.le_of_ble_eq_true rfl⟩ q1 q2 q3 (by decide) (e_T.mono h ?_)
  rintro v g1 ⟨b, rfl, hk⟩
  refine ⟨(fun h => by cases h), fun ht => ?_⟩
  have h2 := hk ht
  show e_T sh YL_law rm 630 ls [.inl b] g1 (cs.1 + r1.2.1, cs.2 + r1.2.2) Q
  refine e_istore (pc := 630) (e_dx DL_law_9 5 rfl) (by decide) ?_
  have hb : (e_s1 ls 5 (.inl b))[5]? = some (.inl b) := e_s1_at (by rw [l1]; decide)
  have hl := lw_s1 (k := 5) (v := .inl b) (Nat.le_refl 5) hl
  obtain ⟨l1, l2, l3, l4, l5, l6⟩ := id hl
  refine e_aload_n (pc := 632) (n := 2) (e_dx DL_law_9 6 rfl) l4 (by decide) ?_
  refine lw_ld (pc := 633) (c := 1) (e_dx DL_law_9 7 rfl) (e_dx DL_law_9 8 rfl) (e_dx DL_law_9 9 rfl) (e_dx DL_law_9 10 rfl) (e_dx DL_law_9 11 rfl) hS hl rfl (by omega) ?_
  refine lw_ld (pc := 639) (c := 2) (e_dx DL_law_9 12 rfl) (e_dx DL_law_9 13 rfl) (e_dx DL_law_9 14 rfl) (e_dx DL_law_9 15 rfl) (e_dx DL_law_9 16 rfl) hS hl rfl (by omega) ?_
  refine lw_ld (pc := 645) (c := 3) (e_dx DL_law_9 17 rfl) (e_dx DL_law_9 18 rfl) (e_dx DL_law_9 19 rfl) (e_dx DL_law_9 20 rfl) (e_dx DL_law_9 21 rfl) hS hl rfl (by omega) ?_
  show e_T sh YL_law rm 651 (e_s1 ls 5 (.inl b)) ([.inl (g1.1 1000000 (i + 1)), .inl (g1.1 1000000 (i + 2)), .inl (g1.1 1000000 (i + 3))].reverse ++ .inr (.inr (.inl 4456)) :: []) g1 (cs.1 + r1.2.1, cs.2 + r1.2.2) Q
  refine e_callV (Yc := YX12_corner) (rc := r2) (a := 4456) (n := 3) (e_dx DL_law_9 22 rfl) mwX12_corner vwX12_corner cL_101 (by decide) z3 rfl ⟨Nat.le_of_ble_eq_true rfl, Nat.le_of_ble_eq_true rfl⟩ p1 p2 p3 (Nat.le_of_ble_eq_true rfl) (e_T.mono h2 ?_)
  rintro w g2 ⟨y, rfl, hk2⟩
  refine ⟨(fun h => by cases h), fun ht2 => ?_⟩
  have h3 := hk2 ht2
  show e_T sh YL_law rm 654 (e_s1 ls 5 (.inl b)) [.inl y] g2 (cs.1 + r1.2.1 + r2.2.1, cs.2 + r1.2.2 + r2.2.2) Q
  refine e_istore (pc := 654) (e_dx DL_law_9 23 rfl) (by decide) ?_
  have hb : (e_s1 (e_s1 ls 5 (.inl b)) 6 (.inl y))[5]? = some (.inl b) := e_s1_get (by decide) hb lw_nl
  have hy : (e_s1 (e_s1 ls 5 (.inl b)) 6 (.inl y))[6]? = some (.inl y) := e_s1_at (by rw [l1]; decide)
  have hl := lw_s1 (k := 6) (v := .inl y) (by decide) hl
  obtain ⟨l1, l2, l3, l4, l5, l6⟩ := id hl
  refine e_aload_n (pc := 656) (n := 2) (e_dx DL_law_9 24 rfl) l4 (by decide) ?_
  show e_T sh YL_law rm 657 (e_s1 (e_s1 ls 5 (.inl b)) 6 (.inl y)) (([] : List e_V).reverse ++ .inr (.inr (.inl 4456)) :: []) g2 (cs.1 + r1.2.1 + r2.2.1, cs.2 + r1.2.2 + r2.2.2) Q
  refine e_callV (Yc := YX12_thrown) (rc := r3) (a := 4456) (n := 0) (e_dx DL_law_9 25 rfl) mwX12_thrown vwX12_thrown cL_84 (by decide) z3 rfl ⟨Nat.le_of_ble_eq_true rfl, Nat.le_of_ble_eq_true rfl⟩ o1 o2 o3 (Nat.le_of_ble_eq_true rfl) (e_T.mono h3 ?_)
  rintro u g3 ⟨rfl, hv, hk3⟩
  refine ⟨(fun h => by cases h), fun ht3 => ?_⟩
  have h4 := hk3 ht3
  show e_T sh YL_law rm 660 (e_s1 (e_s1 ls 5 (.inl b)) 6 (.inl y)) [.inl b] g3 (cs.1 + r1.2.1 + r2.2.1 + r3.2.1, cs.2 + r1.2.2 + r2.2.2 + r3.2.2) Q
  refine e_iload (pc := 660) (e_dx DL_law_9 26 rfl) hb (e_icmp_eq (tgt := 667) (e_dx DL_law_9 27 rfl) (by decide) (fun _ => ?_) (fun hne => absurd rfl hne))
  refine e_iload (pc := 667) (e_dx DL_law_9 30 rfl) hb (e_if_ne (tgt := 684) (e_dx DL_law_9 31 rfl) (by decide) (fun _ => e_goto (pc := 684) (tgt := 830) (e_dx DL_law_10 1 rfl) (by decide) (h4 _ hl)) (fun hb0 => ?_))
  refine e_aload_n (pc := 672) (n := 3) (e_dx DL_law_9 32 rfl) l5 (by decide) (e_iconst (e_dx DL_law_9 33 rfl) ⟨by decide, by decide⟩ (e_lald (a := 4533) (i := 0) (e_dx DL_law_9 34 rfl) (by decide) (by show (sh 4533).1 = 23; rw [z4]) ⟨by decide, by show (0 : Int) < ((sh 4533).2 : Int); rw [z4]; decide⟩ ?_))
  show e_T sh YL_law rm 675 (e_s1 (e_s1 ls 5 (.inl b)) 6 (.inl y)) [.inr (.inl (g3.1 4533 0))] g3 (cs.1 + r1.2.1 + r2.2.1 + r3.2.1, cs.2 + r1.2.2 + r2.2.2 + r3.2.2) Q
  rw [hv hb0]
  refine e_iload (pc := 675) (e_dx DL_law_9 35 rfl) hy (e_i2l_ (e_dx DL_law_9 36 rfl) ?_)
  exact e_lcmp_ (pc := 678) (e_dx DL_law_9 37 rfl) (e_if_eq (tgt := 684) (e_dx DL_law_9 38 rfl) (by decide) (fun _ => e_goto (pc := 684) (tgt := 830) (e_dx DL_law_10 1 rfl) (by decide) (h4 _ hl)) (fun hne => absurd lw_cmp hne))
/-- owner -/
theorem law_owner {ls : List e_V} {r1 r2 r3 : Nat × Nat × Nat} (hS : lw_S sh L) (hl : lw_L i ls) (hi : i + 6 ≤ L) (q1 : r1.1 + 1 ≤ rm.1) (q2 : cs.1 + r1.2.1 ≤ rm.2.1) (q3 : cs.2 + r1.2.2 ≤ rm.2.2) (p1 : r2.1 + 1 ≤ rm.1) (p2 : cs.1 + r1.2.1 + r2.2.1 ≤ rm.2.1) (p3 : cs.2 + r1.2.2 + r2.2.2 ≤ rm.2.2) (o1 : r3.1 + 1 ≤ rm.1) (o2 : cs.1 + r1.2.1 + r2.2.1 + r3.2.1 ≤ rm.2.1) (o3 : cs.2 + r1.2.2 + r2.2.2 + r3.2.2 ≤ rm.2.2)
    (h : e_T sh YL_owner r1 0 (e_loc 6 [.inr (.inr (.inl 0)), .inl (g.1 1000000 (i + 1)), .inl (g.1 1000000 (i + 2)), .inl (g.1 1000000 (i + 3)), .inr (.inr (.inl 4533))]) [] g (0, 0) (fun v g1 => ∃ b : Int, v = some (.inl b) ∧ (g.2 ≤ g1.2 → e_T sh YX12_owner r2 0 (e_loc 5 [.inr (.inr (.inl 4456)), .inl (g1.1 1000000 (i + 1)), .inl (g1.1 1000000 (i + 2)), .inl (g1.1 1000000 (i + 3))]) [] g1 (0, 0) (fun w g2 => ∃ y : Int, w = some (.inl y) ∧ (g1.2 ≤ g2.2 → e_T sh YX12_thrown r3 0 (e_loc 1 [.inr (.inr (.inl 4456))]) [] g2 (0, 0) (fun u g3 => u = some (.inl b) ∧ (b = 0 → g3.1 4533 0 = y) ∧ (g2.2 ≤ g3.2 → ∀ ls2, lw_L i ls2 → e_T sh YL_law rm 830 ls2 [] g3 (cs.1 + r1.2.1 + r2.2.1 + r3.2.1, cs.2 + r1.2.2 + r2.2.2 + r3.2.2) Q))))))) : e_T sh YL_law rm 687 ls [] g cs Q := by
  obtain ⟨l1, l2, l3, l4, l5, l6⟩ := id hl
  obtain ⟨z1, z2, z3, z4, z5⟩ := id hS
  refine e_aload_n (pc := 687) (n := 1) (e_dx DL_law_10 2 rfl) l3 (by decide) ?_
  refine lw_ld (pc := 688) (c := 1) (e_dx DL_law_10 3 rfl) (e_dx DL_law_10 4 rfl) (e_dx DL_law_10 5 rfl) (e_dx DL_law_10 6 rfl) (e_dx DL_law_10 7 rfl) hS hl rfl (by omega) ?_
  refine lw_ld (pc := 694) (c := 2) (e_dx DL_law_10 8 rfl) (e_dx DL_law_10 9 rfl) (e_dx DL_law_10 10 rfl) (e_dx DL_law_10 11 rfl) (e_dx DL_law_10 12 rfl) hS hl rfl (by omega) ?_
  refine lw_ld (pc := 700) (c := 3) (e_dx DL_law_10 13 rfl) (e_dx DL_law_10 14 rfl) (e_dx DL_law_10 15 rfl) (e_dx DL_law_10 16 rfl) (e_dx DL_law_10 17 rfl) hS hl rfl (by omega) ?_
  refine e_aload_n (pc := 706) (n := 3) (e_dx DL_law_10 18 rfl) l5 (by decide) ?_
  show e_T sh YL_law rm 707 ls ([.inr (.inr (.inl 0)), .inl (g.1 1000000 (i + 1)), .inl (g.1 1000000 (i + 2)), .inl (g.1 1000000 (i + 3)), .inr (.inr (.inl 4533))].reverse ++ []) g cs Q
  refine e_callSH (Yc := YL_owner) (rc := r1) (n := 5) (e_dx DL_law_10 19 rfl) (by decide +kernel) law_wowner law_nowner law_ini ⟨by decide, by decide, by decide +kernel⟩ cL_102 law_sowner rfl ⟨Nat.le_of_ble_eq_true rfl, Nat.le_of_ble_eq_true rfl⟩ q1 q2 q3 (by decide) (e_T.mono h ?_)
  rintro v g1 ⟨b, rfl, hk⟩
  refine ⟨(fun h => by cases h), fun ht => ?_⟩
  have h2 := hk ht
  show e_T sh YL_law rm 710 ls [.inl b] g1 (cs.1 + r1.2.1, cs.2 + r1.2.2) Q
  refine e_istore (pc := 710) (e_dx DL_law_10 20 rfl) (by decide) ?_
  have hb : (e_s1 ls 5 (.inl b))[5]? = some (.inl b) := e_s1_at (by rw [l1]; decide)
  have hl := lw_s1 (k := 5) (v := .inl b) (Nat.le_refl 5) hl
  obtain ⟨l1, l2, l3, l4, l5, l6⟩ := id hl
  refine e_aload_n (pc := 712) (n := 2) (e_dx DL_law_10 21 rfl) l4 (by decide) ?_
  refine lw_ld (pc := 713) (c := 1) (e_dx DL_law_10 22 rfl) (e_dx DL_law_10 23 rfl) (e_dx DL_law_10 24 rfl) (e_dx DL_law_10 25 rfl) (e_dx DL_law_10 26 rfl) hS hl rfl (by omega) ?_
  refine lw_ld (pc := 719) (c := 2) (e_dx DL_law_10 27 rfl) (e_dx DL_law_10 28 rfl) (e_dx DL_law_10 29 rfl) (e_dx DL_law_10 30 rfl) (e_dx DL_law_10 31 rfl) hS hl rfl (by omega) ?_
  refine lw_ld (pc := 725) (c := 3) (e_dx DL_law_10 32 rfl) (e_dx DL_law_10 33 rfl) (e_dx DL_law_10 34 rfl) (e_dx DL_law_10 35 rfl) (e_dx DL_law_10 36 rfl) hS hl rfl (by omega) ?_
  show e_T sh YL_law rm 731 (e_s1 ls 5 (.inl b)) ([.inl (g1.1 1000000 (i + 1)), .inl (g1.1 1000000 (i + 2)), .inl (g1.1 1000000 (i + 3))].reverse ++ .inr (.inr (.inl 4456)) :: []) g1 (cs.1 + r1.2.1, cs.2 + r1.2.2) Q
  refine e_callV (Yc := YX12_owner) (rc := r2) (a := 4456) (n := 3) (e_dx DL_law_10 37 rfl) mwX12_owner vwX12_owner cL_104 (by decide) z3 rfl ⟨Nat.le_of_ble_eq_true rfl, Nat.le_of_ble_eq_true rfl⟩ p1 p2 p3 (Nat.le_of_ble_eq_true rfl) (e_T.mono h2 ?_)
  rintro w g2 ⟨y, rfl, hk2⟩
  refine ⟨(fun h => by cases h), fun ht2 => ?_⟩
  have h3 := hk2 ht2
  show e_T sh YL_law rm 734 (e_s1 ls 5 (.inl b)) [.inl y] g2 (cs.1 + r1.2.1 + r2.2.1, cs.2 + r1.2.2 + r2.2.2) Q
  refine e_istore (pc := 734) (e_dx DL_law_10 38 rfl) (by decide) ?_
  have hb : (e_s1 (e_s1 ls 5 (.inl b)) 6 (.inl y))[5]? = some (.inl b) := e_s1_get (by decide) hb lw_nl
  have hy : (e_s1 (e_s1 ls 5 (.inl b)) 6 (.inl y))[6]? = some (.inl y) := e_s1_at (by rw [l1]; decide)
  have hl := lw_s1 (k := 6) (v := .inl y) (by decide) hl
  obtain ⟨l1, l2, l3, l4, l5, l6⟩ := id hl
  refine e_aload_n (pc := 736) (n := 2) (e_dx DL_law_10 39 rfl) l4 (by decide) ?_
  show e_T sh YL_law rm 737 (e_s1 (e_s1 ls 5 (.inl b)) 6 (.inl y)) (([] : List e_V).reverse ++ .inr (.inr (.inl 4456)) :: []) g2 (cs.1 + r1.2.1 + r2.2.1, cs.2 + r1.2.2 + r2.2.2) Q
  refine e_callV (Yc := YX12_thrown) (rc := r3) (a := 4456) (n := 0) (e_dx DL_law_11 0 rfl) mwX12_thrown vwX12_thrown cL_84 (by decide) z3 rfl ⟨Nat.le_of_ble_eq_true rfl, Nat.le_of_ble_eq_true rfl⟩ o1 o2 o3 (Nat.le_of_ble_eq_true rfl) (e_T.mono h3 ?_)
  rintro u g3 ⟨rfl, hv, hk3⟩
  refine ⟨(fun h => by cases h), fun ht3 => ?_⟩
  have h4 := hk3 ht3
  show e_T sh YL_law rm 740 (e_s1 (e_s1 ls 5 (.inl b)) 6 (.inl y)) [.inl b] g3 (cs.1 + r1.2.1 + r2.2.1 + r3.2.1, cs.2 + r1.2.2 + r2.2.2 + r3.2.2) Q
  refine e_iload (pc := 740) (e_dx DL_law_11 1 rfl) hb (e_icmp_eq (tgt := 747) (e_dx DL_law_11 2 rfl) (by decide) (fun _ => ?_) (fun hne => absurd rfl hne))
  refine e_iload (pc := 747) (e_dx DL_law_11 5 rfl) hb (e_if_ne (tgt := 764) (e_dx DL_law_11 6 rfl) (by decide) (fun _ => e_goto (pc := 764) (tgt := 830) (e_dx DL_law_11 16 rfl) (by decide) (h4 _ hl)) (fun hb0 => ?_))
  refine e_aload_n (pc := 752) (n := 3) (e_dx DL_law_11 7 rfl) l5 (by decide) (e_iconst (e_dx DL_law_11 8 rfl) ⟨by decide, by decide⟩ (e_lald (a := 4533) (i := 0) (e_dx DL_law_11 9 rfl) (by decide) (by show (sh 4533).1 = 23; rw [z4]) ⟨by decide, by show (0 : Int) < ((sh 4533).2 : Int); rw [z4]; decide⟩ ?_))
  show e_T sh YL_law rm 755 (e_s1 (e_s1 ls 5 (.inl b)) 6 (.inl y)) [.inr (.inl (g3.1 4533 0))] g3 (cs.1 + r1.2.1 + r2.2.1 + r3.2.1, cs.2 + r1.2.2 + r2.2.2 + r3.2.2) Q
  rw [hv hb0]
  refine e_iload (pc := 755) (e_dx DL_law_11 10 rfl) hy (e_i2l_ (e_dx DL_law_11 11 rfl) ?_)
  exact e_lcmp_ (pc := 758) (e_dx DL_law_11 12 rfl) (e_if_eq (tgt := 764) (e_dx DL_law_11 13 rfl) (by decide) (fun _ => e_goto (pc := 764) (tgt := 830) (e_dx DL_law_11 16 rfl) (by decide) (h4 _ hl)) (fun hne => absurd lw_cmp hne))
/-- the helper of octet -/
theorem hel_octet {r : Nat × Nat × Nat} {x : Int} (hS : lw_S sh L) (q1 : r.1 + 1 ≤ rm.1) (q2 : cs.1 + r.2.1 ≤ rm.2.1) (q3 : cs.2 + r.2.2 ≤ rm.2.2)
    (h : e_T sh YX11_octet r 0 (e_loc 2 [.inr (.inr (.inl 0)), .inl x]) [] g (0, 0) (fun v g1 => g.2 ≤ g1.2 → (∃ w : Int, v = some (.inl w) ∧ Q (some (.inl 0)) (e_up g1.1 4533 0 w, g1.2)) ∨ (v = some (.inr (.inr (.inr ()))) ∧ Q (some (.inl 1)) g1))) : e_T sh YL_octet rm 0 (e_loc 4 [.inr (.inr (.inl 0)), .inl x, .inr (.inr (.inl 4533))]) [] g cs Q := by
  obtain ⟨z1, z2, z3, z4, z5⟩ := hS
  refine e_aload_n (pc := 0) (n := 2) (e_dx DL_octet_0 0 rfl) rfl (by decide) ?_
  refine e_iconst (pc := 1) (e_dx DL_octet_0 1 rfl) ⟨by decide, by decide⟩ ?_
  refine e_aload_n (pc := 2) (n := 0) (e_dx DL_octet_0 2 rfl) rfl (by decide) ?_
  refine e_iload_n (pc := 3) (n := 1) (e_dx DL_octet_0 3 rfl) rfl ?_
  show e_T sh YL_octet rm 4 (e_loc 4 [.inr (.inr (.inl 0)), .inl x, .inr (.inr (.inl 4533))]) ([.inl x].reverse ++ .inr (.inr (.inl 0)) :: [.inl 0, .inr (.inr (.inl 4533))]) g cs Q
  refine e_callVX (Yc := YX11_octet) (rc := r) (a := 0) (n := 1) (a0 := 0) (a1 := 9) (hp := 12) (ct := 13) (pc2 := 13) (k := 3) (e_dx DL_octet_0 4 rfl) mwX11_octet vwX11_octet cL_7 (by decide) z2 rfl ⟨Nat.le_of_ble_eq_true rfl, Nat.le_of_ble_eq_true rfl⟩ q1 q2 q3 (Nat.le_of_ble_eq_true rfl) law_woctet ⟨by decide, by decide⟩ (by decide) law_lk ⟨by decide, Or.inl ⟨3, rfl, (e_dx DL_octet_0 8 rfl), rfl⟩⟩ (e_T.mono h ?_)
  intro v g1 hv ht
  rcases hv ht with ⟨w, rfl, hQ⟩ | ⟨rfl, hQ⟩
  · refine ⟨fun _ => ?_, (fun h => by cases h)⟩
    show e_T sh YL_octet rm 7 (e_loc 4 [.inr (.inr (.inl 0)), .inl x, .inr (.inr (.inl 4533))]) [.inl w, .inl 0, .inr (.inr (.inl 4533))] g1 (cs.1 + r.2.1, cs.2 + r.2.2) Q
    refine e_i2l_ (pc := 7) (e_dx DL_octet_0 5 rfl) ?_
    refine e_last (pc := 8) (a := 4533) (i := 0) (e_dx DL_octet_0 6 rfl) (by decide) (by show (4533 : Nat) < 1000000; decide) (by show (sh 4533).1 = 23; rw [z4]) ⟨by decide, by show (0 : Int) < ((sh 4533).2 : Int); rw [z4]; decide⟩ ?_
    exact e_goto (pc := 9) (tgt := 15) (e_dx DL_octet_0 7 rfl) (by decide) (e_iconst (e_dx DL_octet_0 11 rfl) ⟨by decide, by decide⟩ (e_iret (e_dx DL_octet_0 12 rfl) rfl q2 q3 hQ))
  · refine ⟨fun h => absurd rfl h, fun _ => ?_⟩
    exact e_iconst (pc := 13) (e_dx DL_octet_0 9 rfl) ⟨by decide, by decide⟩ (e_iret (e_dx DL_octet_0 10 rfl) rfl q2 q3 hQ)
/-- the helper of name -/
theorem hel_name {r : Nat × Nat × Nat} {x y : Int} (hS : lw_S sh L) (q1 : r.1 + 1 ≤ rm.1) (q2 : cs.1 + r.2.1 ≤ rm.2.1) (q3 : cs.2 + r.2.2 ≤ rm.2.2)
    (h : e_T sh YX11_name r 0 (e_loc 5 [.inr (.inr (.inl 0)), .inl x, .inl y]) [] g (0, 0) (fun v g1 => g.2 ≤ g1.2 → (∃ w : Int, v = some (.inr (.inl w)) ∧ Q (some (.inl 0)) (e_up g1.1 4533 0 w, g1.2)) ∨ (v = some (.inr (.inr (.inr ()))) ∧ Q (some (.inl 1)) g1))) : e_T sh YL_name rm 0 (e_loc 5 [.inr (.inr (.inl 0)), .inl x, .inl y, .inr (.inr (.inl 4533))]) [] g cs Q := by
  obtain ⟨z1, z2, z3, z4, z5⟩ := hS
  refine e_aload_n (pc := 0) (n := 3) (e_dx DL_name_0 0 rfl) rfl (by decide) ?_
  refine e_iconst (pc := 1) (e_dx DL_name_0 1 rfl) ⟨by decide, by decide⟩ ?_
  refine e_aload_n (pc := 2) (n := 0) (e_dx DL_name_0 2 rfl) rfl (by decide) ?_
  refine e_iload_n (pc := 3) (n := 1) (e_dx DL_name_0 3 rfl) rfl ?_
  refine e_iload_n (pc := 4) (n := 2) (e_dx DL_name_0 4 rfl) rfl ?_
  show e_T sh YL_name rm 5 (e_loc 5 [.inr (.inr (.inl 0)), .inl x, .inl y, .inr (.inr (.inl 4533))]) ([.inl x, .inl y].reverse ++ .inr (.inr (.inl 0)) :: [.inl 0, .inr (.inr (.inl 4533))]) g cs Q
  refine e_callVX (Yc := YX11_name) (rc := r) (a := 0) (n := 2) (a0 := 0) (a1 := 9) (hp := 12) (ct := 13) (pc2 := 14) (k := 4) (e_dx DL_name_0 5 rfl) mwX11_name vwX11_name cL_15 (by decide) z2 rfl ⟨Nat.le_of_ble_eq_true rfl, Nat.le_of_ble_eq_true rfl⟩ q1 q2 q3 (Nat.le_of_ble_eq_true rfl) law_wname ⟨by decide, by decide⟩ (by decide) law_lk ⟨by decide, Or.inr ⟨(e_dx DL_name_0 8 rfl), rfl⟩⟩ (e_T.mono h ?_)
  intro v g1 hv ht
  rcases hv ht with ⟨w, rfl, hQ⟩ | ⟨rfl, hQ⟩
  · refine ⟨fun _ => ?_, (fun h => by cases h)⟩
    show e_T sh YL_name rm 8 (e_loc 5 [.inr (.inr (.inl 0)), .inl x, .inl y, .inr (.inr (.inl 4533))]) [.inr (.inl w), .inl 0, .inr (.inr (.inl 4533))] g1 (cs.1 + r.2.1, cs.2 + r.2.2) Q
    refine e_last (pc := 8) (a := 4533) (i := 0) (e_dx DL_name_0 6 rfl) (by decide) (by show (4533 : Nat) < 1000000; decide) (by show (sh 4533).1 = 23; rw [z4]) ⟨by decide, by show (0 : Int) < ((sh 4533).2 : Int); rw [z4]; decide⟩ ?_
    exact e_goto (pc := 9) (tgt := 16) (e_dx DL_name_0 7 rfl) (by decide) (e_iconst (e_dx DL_name_0 11 rfl) ⟨by decide, by decide⟩ (e_iret (e_dx DL_name_0 12 rfl) rfl q2 q3 hQ))
  · refine ⟨fun h => absurd rfl h, fun _ => ?_⟩
    exact e_iconst (pc := 14) (e_dx DL_name_0 9 rfl) ⟨by decide, by decide⟩ (e_iret (e_dx DL_name_0 10 rfl) rfl q2 q3 hQ)
/-- the helper of thing -/
theorem hel_thing {r : Nat × Nat × Nat} {x y z : Int} (hS : lw_S sh L) (q1 : r.1 + 1 ≤ rm.1) (q2 : cs.1 + r.2.1 ≤ rm.2.1) (q3 : cs.2 + r.2.2 ≤ rm.2.2)
    (h : e_T sh YX11_thing r 0 (e_loc 6 [.inr (.inr (.inl 0)), .inl x, .inl y, .inl z]) [] g (0, 0) (fun v g1 => g.2 ≤ g1.2 → (∃ w : Int, v = some (.inl w) ∧ Q (some (.inl 0)) (e_up g1.1 4533 0 w, g1.2)) ∨ (v = some (.inr (.inr (.inr ()))) ∧ Q (some (.inl 1)) g1))) : e_T sh YL_thing rm 0 (e_loc 6 [.inr (.inr (.inl 0)), .inl x, .inl y, .inl z, .inr (.inr (.inl 4533))]) [] g cs Q := by
  obtain ⟨z1, z2, z3, z4, z5⟩ := hS
  refine e_aload (pc := 0) (e_dx DL_thing_0 0 rfl) rfl (by decide) ?_
  refine e_iconst (pc := 2) (e_dx DL_thing_0 1 rfl) ⟨by decide, by decide⟩ ?_
  refine e_aload_n (pc := 3) (n := 0) (e_dx DL_thing_0 2 rfl) rfl (by decide) ?_
  refine e_iload_n (pc := 4) (n := 1) (e_dx DL_thing_0 3 rfl) rfl ?_
  refine e_iload_n (pc := 5) (n := 2) (e_dx DL_thing_0 4 rfl) rfl ?_
  refine e_iload_n (pc := 6) (n := 3) (e_dx DL_thing_0 5 rfl) rfl ?_
  show e_T sh YL_thing rm 7 (e_loc 6 [.inr (.inr (.inl 0)), .inl x, .inl y, .inl z, .inr (.inr (.inl 4533))]) ([.inl x, .inl y, .inl z].reverse ++ .inr (.inr (.inl 0)) :: [.inl 0, .inr (.inr (.inl 4533))]) g cs Q
  refine e_callVX (Yc := YX11_thing) (rc := r) (a := 0) (n := 3) (a0 := 0) (a1 := 12) (hp := 15) (ct := 13) (pc2 := 17) (k := 5) (e_dx DL_thing_0 6 rfl) mwX11_thing vwX11_thing cL_19 (by decide) z2 rfl ⟨Nat.le_of_ble_eq_true rfl, Nat.le_of_ble_eq_true rfl⟩ q1 q2 q3 (Nat.le_of_ble_eq_true rfl) law_wthing ⟨by decide, by decide⟩ (by decide) law_lk ⟨by decide, Or.inr ⟨(e_dx DL_thing_0 10 rfl), rfl⟩⟩ (e_T.mono h ?_)
  intro v g1 hv ht
  rcases hv ht with ⟨w, rfl, hQ⟩ | ⟨rfl, hQ⟩
  · refine ⟨fun _ => ?_, (fun h => by cases h)⟩
    show e_T sh YL_thing rm 10 (e_loc 6 [.inr (.inr (.inl 0)), .inl x, .inl y, .inl z, .inr (.inr (.inl 4533))]) [.inl w, .inl 0, .inr (.inr (.inl 4533))] g1 (cs.1 + r.2.1, cs.2 + r.2.2) Q
    refine e_i2l_ (pc := 10) (e_dx DL_thing_0 7 rfl) ?_
    refine e_last (pc := 11) (a := 4533) (i := 0) (e_dx DL_thing_0 8 rfl) (by decide) (by show (4533 : Nat) < 1000000; decide) (by show (sh 4533).1 = 23; rw [z4]) ⟨by decide, by show (0 : Int) < ((sh 4533).2 : Int); rw [z4]; decide⟩ ?_
    exact e_goto (pc := 12) (tgt := 19) (e_dx DL_thing_0 9 rfl) (by decide) (e_iconst (e_dx DL_thing_0 13 rfl) ⟨by decide, by decide⟩ (e_iret (e_dx DL_thing_0 14 rfl) rfl q2 q3 hQ))
  · refine ⟨fun h => absurd rfl h, fun _ => ?_⟩
    exact e_iconst (pc := 17) (e_dx DL_thing_0 11 rfl) ⟨by decide, by decide⟩ (e_iret (e_dx DL_thing_0 12 rfl) rfl q2 q3 hQ)
/-- the helper of corner -/
theorem hel_corner {r : Nat × Nat × Nat} {x y z : Int} (hS : lw_S sh L) (q1 : r.1 + 1 ≤ rm.1) (q2 : cs.1 + r.2.1 ≤ rm.2.1) (q3 : cs.2 + r.2.2 ≤ rm.2.2)
    (h : e_T sh YX11_corner r 0 (e_loc 7 [.inr (.inr (.inl 0)), .inl x, .inl y, .inl z]) [] g (0, 0) (fun v g1 => g.2 ≤ g1.2 → (∃ w : Int, v = some (.inl w) ∧ Q (some (.inl 0)) (e_up g1.1 4533 0 w, g1.2)) ∨ (v = some (.inr (.inr (.inr ()))) ∧ Q (some (.inl 1)) g1))) : e_T sh YL_corner rm 0 (e_loc 6 [.inr (.inr (.inl 0)), .inl x, .inl y, .inl z, .inr (.inr (.inl 4533))]) [] g cs Q := by
  obtain ⟨z1, z2, z3, z4, z5⟩ := hS
  refine e_aload (pc := 0) (e_dx DL_corner_0 0 rfl) rfl (by decide) ?_
  refine e_iconst (pc := 2) (e_dx DL_corner_0 1 rfl) ⟨by decide, by decide⟩ ?_
  refine e_aload_n (pc := 3) (n := 0) (e_dx DL_corner_0 2 rfl) rfl (by decide) ?_
  refine e_iload_n (pc := 4) (n := 1) (e_dx DL_corner_0 3 rfl) rfl ?_
  refine e_iload_n (pc := 5) (n := 2) (e_dx DL_corner_0 4 rfl) rfl ?_
  refine e_iload_n (pc := 6) (n := 3) (e_dx DL_corner_0 5 rfl) rfl ?_
  show e_T sh YL_corner rm 7 (e_loc 6 [.inr (.inr (.inl 0)), .inl x, .inl y, .inl z, .inr (.inr (.inl 4533))]) ([.inl x, .inl y, .inl z].reverse ++ .inr (.inr (.inl 0)) :: [.inl 0, .inr (.inr (.inl 4533))]) g cs Q
  refine e_callVX (Yc := YX11_corner) (rc := r) (a := 0) (n := 3) (a0 := 0) (a1 := 12) (hp := 15) (ct := 13) (pc2 := 17) (k := 5) (e_dx DL_corner_0 6 rfl) mwX11_corner vwX11_corner cL_23 (by decide) z2 rfl ⟨Nat.le_of_ble_eq_true rfl, Nat.le_of_ble_eq_true rfl⟩ q1 q2 q3 (Nat.le_of_ble_eq_true rfl) law_wcorner ⟨by decide, by decide⟩ (by decide) law_lk ⟨by decide, Or.inr ⟨(e_dx DL_corner_0 10 rfl), rfl⟩⟩ (e_T.mono h ?_)
  intro v g1 hv ht
  rcases hv ht with ⟨w, rfl, hQ⟩ | ⟨rfl, hQ⟩
  · refine ⟨fun _ => ?_, (fun h => by cases h)⟩
    show e_T sh YL_corner rm 10 (e_loc 6 [.inr (.inr (.inl 0)), .inl x, .inl y, .inl z, .inr (.inr (.inl 4533))]) [.inl w, .inl 0, .inr (.inr (.inl 4533))] g1 (cs.1 + r.2.1, cs.2 + r.2.2) Q
    refine e_i2l_ (pc := 10) (e_dx DL_corner_0 7 rfl) ?_
    refine e_last (pc := 11) (a := 4533) (i := 0) (e_dx DL_corner_0 8 rfl) (by decide) (by show (4533 : Nat) < 1000000; decide) (by show (sh 4533).1 = 23; rw [z4]) ⟨by decide, by show (0 : Int) < ((sh 4533).2 : Int); rw [z4]; decide⟩ ?_
    exact e_goto (pc := 12) (tgt := 19) (e_dx DL_corner_0 9 rfl) (by decide) (e_iconst (e_dx DL_corner_0 13 rfl) ⟨by decide, by decide⟩ (e_iret (e_dx DL_corner_0 14 rfl) rfl q2 q3 hQ))
  · refine ⟨fun h => absurd rfl h, fun _ => ?_⟩
    exact e_iconst (pc := 17) (e_dx DL_corner_0 11 rfl) ⟨by decide, by decide⟩ (e_iret (e_dx DL_corner_0 12 rfl) rfl q2 q3 hQ)
/-- the helper of owner -/
theorem hel_owner {r : Nat × Nat × Nat} {x y z : Int} (hS : lw_S sh L) (q1 : r.1 + 1 ≤ rm.1) (q2 : cs.1 + r.2.1 ≤ rm.2.1) (q3 : cs.2 + r.2.2 ≤ rm.2.2)
    (h : e_T sh YX11_owner r 0 (e_loc 7 [.inr (.inr (.inl 0)), .inl x, .inl y, .inl z]) [] g (0, 0) (fun v g1 => g.2 ≤ g1.2 → (∃ w : Int, v = some (.inl w) ∧ Q (some (.inl 0)) (e_up g1.1 4533 0 w, g1.2)) ∨ (v = some (.inr (.inr (.inr ()))) ∧ Q (some (.inl 1)) g1))) : e_T sh YL_owner rm 0 (e_loc 6 [.inr (.inr (.inl 0)), .inl x, .inl y, .inl z, .inr (.inr (.inl 4533))]) [] g cs Q := by
  obtain ⟨z1, z2, z3, z4, z5⟩ := hS
  refine e_aload (pc := 0) (e_dx DL_owner_0 0 rfl) rfl (by decide) ?_
  refine e_iconst (pc := 2) (e_dx DL_owner_0 1 rfl) ⟨by decide, by decide⟩ ?_
  refine e_aload_n (pc := 3) (n := 0) (e_dx DL_owner_0 2 rfl) rfl (by decide) ?_
  refine e_iload_n (pc := 4) (n := 1) (e_dx DL_owner_0 3 rfl) rfl ?_
  refine e_iload_n (pc := 5) (n := 2) (e_dx DL_owner_0 4 rfl) rfl ?_
  refine e_iload_n (pc := 6) (n := 3) (e_dx DL_owner_0 5 rfl) rfl ?_
  show e_T sh YL_owner rm 7 (e_loc 6 [.inr (.inr (.inl 0)), .inl x, .inl y, .inl z, .inr (.inr (.inl 4533))]) ([.inl x, .inl y, .inl z].reverse ++ .inr (.inr (.inl 0)) :: [.inl 0, .inr (.inr (.inl 4533))]) g cs Q
  refine e_callVX (Yc := YX11_owner) (rc := r) (a := 0) (n := 3) (a0 := 0) (a1 := 12) (hp := 15) (ct := 13) (pc2 := 17) (k := 5) (e_dx DL_owner_0 6 rfl) mwX11_owner vwX11_owner cL_26 (by decide) z2 rfl ⟨Nat.le_of_ble_eq_true rfl, Nat.le_of_ble_eq_true rfl⟩ q1 q2 q3 (Nat.le_of_ble_eq_true rfl) law_wowner ⟨by decide, by decide⟩ (by decide) law_lk ⟨by decide, Or.inr ⟨(e_dx DL_owner_0 10 rfl), rfl⟩⟩ (e_T.mono h ?_)
  intro v g1 hv ht
  rcases hv ht with ⟨w, rfl, hQ⟩ | ⟨rfl, hQ⟩
  · refine ⟨fun _ => ?_, (fun h => by cases h)⟩
    show e_T sh YL_owner rm 10 (e_loc 6 [.inr (.inr (.inl 0)), .inl x, .inl y, .inl z, .inr (.inr (.inl 4533))]) [.inl w, .inl 0, .inr (.inr (.inl 4533))] g1 (cs.1 + r.2.1, cs.2 + r.2.2) Q
    refine e_i2l_ (pc := 10) (e_dx DL_owner_0 7 rfl) ?_
    refine e_last (pc := 11) (a := 4533) (i := 0) (e_dx DL_owner_0 8 rfl) (by decide) (by show (4533 : Nat) < 1000000; decide) (by show (sh 4533).1 = 23; rw [z4]) ⟨by decide, by show (0 : Int) < ((sh 4533).2 : Int); rw [z4]; decide⟩ ?_
    exact e_goto (pc := 12) (tgt := 19) (e_dx DL_owner_0 9 rfl) (by decide) (e_iconst (e_dx DL_owner_0 13 rfl) ⟨by decide, by decide⟩ (e_iret (e_dx DL_owner_0 14 rfl) rfl q2 q3 hQ))
  · refine ⟨fun h => absurd rfl h, fun _ => ?_⟩
    exact e_iconst (pc := 17) (e_dx DL_owner_0 11 rfl) ⟨by decide, by decide⟩ (e_iret (e_dx DL_owner_0 12 rfl) rfl q2 q3 hQ)
/-- the loop's head -/
theorem law_head {ls : List e_V} (hS : lw_S sh L) (hl : lw_L i ls) (hi : i ≤ 3072) (r1 : cs.1 ≤ rm.2.1) (r2 : cs.2 ≤ rm.2.2) (kx : L < i + 6 → Q (some (.inl 1)) g) (kc : i + 6 ≤ L → e_sw (fun t => e_T sh YL_law rm t ls [] g cs Q) 830 (Int32.ofInt (g.1 1000000 i) &&& Int32.ofInt 31).toInt [(0, 128), (1, 201), (2, 226), (3, 251), (4, 264), (5, 277), (6, 290), (7, 327), (8, 352), (9, 365), (10, 379), (11, 435), (12, 460), (13, 527), (14, 607), (15, 687), (16, 767), (17, 816)]) : e_T sh YL_law rm 23 ls [] g cs Q := by
  obtain ⟨l1, l2, l3, l4, l5, l6⟩ := id hl
  obtain ⟨z1, z2, z3, z4, z5⟩ := id hS
  refine e_iload (pc := 23) (e_dx DL_law_0 13 rfl) l6 (e_aload_n (n := 0) (e_dx DL_law_0 14 rfl) l2 (by decide) (e_alen (a := 1000000) (kd := 20) (e_dx DL_law_0 15 rfl) (by decide) (by show (sh 1000000).1 = 20; rw [z1]) (by decide) (by show (sh 1000000).2 < _; rw [z1]; show L < _; omega) (e_bipush (e_dx DL_law_0 16 rfl) ⟨by decide, by decide⟩ (e_isub (e_dx DL_law_0 17 rfl) ?_))))
  show e_T sh YL_law rm 30 ls [.inl (e_w32 (((sh 1000000).2 : Int) - 6)), .inl (i : Int)] g cs Q
  rw [show e_w32 (((sh 1000000).2 : Int) - 6) = (L : Int) - 6 from by
    rw [z1]
    show e_w32 ((L : Int) - 6) = _
    exact e_w32_id ⟨by omega, by omega⟩]
  refine e_icmp_gt (pc := 30) (tgt := 836) (e_dx DL_law_0 18 rfl) (by decide) (fun h => ?_) (fun h => ?_)
  · exact e_iconst (pc := 836) (e_dx DL_law_12 24 rfl) ⟨by decide, by decide⟩ (e_zret (e_dx DL_law_12 25 rfl) rfl (Or.inr rfl) r1 r2 (kx (by omega)))
  · refine e_aload_n (pc := 33) (n := 0) (e_dx DL_law_0 19 rfl) l2 (by decide) (e_iload (e_dx DL_law_0 20 rfl) l6 (e_iald (a := 1000000) (i := (i : Int)) (e_dx DL_law_0 21 rfl) (by decide) (by show (sh 1000000).1 = 20; rw [z1]) ⟨by omega, by show (i : Int) < ((sh 1000000).2 : Int); rw [z1]; show (i : Int) < (L : Int); omega⟩ ?_))
    show e_T sh YL_law rm 37 ls [.inl (g.1 1000000 i)] g cs Q
    exact e_bipush (e_dx DL_law_0 22 rfl) ⟨by decide, by decide⟩ (e_iand (e_dx DL_law_0 23 rfl) (e_tsw (d := 830) (e_dx DL_law_0 24 rfl) (by decide) rfl (by decide) rfl (kc (by omega))))
/-- the loop's step -/
theorem law_tail {ls : List e_V} (hl : lw_L i ls) (hi : i ≤ 3072) (k : ∀ ls2, lw_L (i + 6) ls2 → e_T sh YL_law rm 23 ls2 [] g cs Q) : e_T sh YL_law rm 830 ls [] g cs Q := by
  obtain ⟨l1, l2, l3, l4, l5, l6⟩ := id hl
  refine e_iinc (pc := 830) (i := 4) (n := 6) (e_dx DL_law_12 22 rfl) l6 ⟨by decide, by decide⟩ (by rw [l1]; decide) (e_goto (pc := 833) (tgt := 23) (e_dx DL_law_12 23 rfl) (by decide) (k _ ?_))
  rw [show e_w32 ((i : Int) + 6) = ((i + 6 : Nat) : Int) from by rw [e_w32_id ⟨by omega, by omega⟩]; omega]
  exact ⟨by rw [x_len1]; exact l1, e_s1_get (by decide) l2 lw_nr, e_s1_get (by decide) l3 lw_nr, e_s1_get (by decide) l4 lw_nr, e_s1_get (by decide) l5 lw_nr, e_s1_at (by rw [l1]; decide)⟩
end LAW
