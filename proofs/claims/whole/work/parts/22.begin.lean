/-! the law's beginning: both sides made -/
noncomputable section
def pL_beg : List x_I := [(0, 32, 11, 15, 0, 0, []), (3, 20, 0, 0, 0, 0, []), (4, 40, 0, 1, 1, 0, []), (7, 7, 1, 1, 0, 0, []), (8, 32, 12, 123, 0, 0, []), (11, 20, 0, 0, 0, 0, []), (12, 40, 1, 1, 1, 0, []), (15, 7, 1, 2, 0, 0, []), (16, 0, 1, 0, 0, 1, []), (17, 33, 23, 2, 0, 0, []), (19, 7, 1, 3, 0, 0, []), (20, 0, 1, 0, 0, 0, []), (21, 5, 2, 4, 0, 0, [])]
theorem qL_beg : x_all x_Ys YL_law pL_beg :=
  ⟨x_g32 (e_dx DL_law_0 0 rfl) nL_8 rfl (by decide),
  x_g20 (e_dx DL_law_0 1 rfl),
  x_callI (e_dx DL_law_0 2 rfl) mwX11_init rfl rfl iwX11_init cL_29 rfl,
  x_astore_n (n := 1) (e_dx DL_law_0 3 rfl) rfl (by decide),
  x_g32 (e_dx DL_law_0 4 rfl) nL_30 rfl (by decide),
  x_g20 (e_dx DL_law_0 5 rfl),
  x_callI (e_dx DL_law_0 6 rfl) mwX12_init rfl rfl iwX12_init cL_32 rfl,
  x_astore_n (n := 2) (e_dx DL_law_0 7 rfl) rfl (by decide),
  x_iconst (e_dx DL_law_0 8 rfl) ⟨by decide, by decide⟩,
  x_new_long (e_dx DL_law_0 9 rfl),
  x_astore_n (n := 3) (e_dx DL_law_0 10 rfl) rfl (by decide),
  x_iconst (e_dx DL_law_0 11 rfl) ⟨by decide, by decide⟩,
  x_istore (e_dx DL_law_0 12 rfl) (by decide), trivial⟩
theorem st_sh {L : Nat} : ∀ a, a < 1000000 → e_sh 0 a = e_sh L a := by
  intro a ha
  unfold e_sh
  rw [if_neg (show ¬ 1000000 ≤ a by omega), if_neg (show ¬ 1000000 ≤ a by omega)]
theorem st_slL {L : Nat} : ∀ t, t ≤ 1000000 → x_sl (e_sh L) t = x_sl (e_sh 0) t
  | 0, _ => rfl
  | t + 1, h => by
    show x_sl (e_sh L) t + (e_sh L t).2 = x_sl (e_sh 0) t + (e_sh 0 t).2
    rw [st_slL t (by omega), st_sh (L := L) t (by omega)]
theorem st_sl : Nat.ble (x_sl (e_sh 0) 4534) 300000 = true := by decide +kernel
theorem st_kT : ∀ k, k < 4 → x_get (99, 0, 0, []) x_kst k = (20, (st_vs.getD k []).length, 0, st_vs.getD k []) := by decide +kernel
theorem st_kK : ∀ k, k < 29 → x_get (99, 0, 0, []) x_kst (k + 4) = (15, k + 1, 0, []) := by decide +kernel
theorem st_kV : ∀ k, k < 29 → x_get (99, 0, 0, []) x_kst (k + 33) = (22, e_slen.getD k 0, 0, (x_get [] e_sby k).map (fun n => Int.ofNat n)) := by decide +kernel
theorem st_B {k : Nat} : x_B0 (1000001 + k) = x_get (99, 0, 0, []) x_kst k := by
  show cond (Nat.blt (1000001 + k) 1000000) (99, 0, 0, []) (x_get (99, 0, 0, []) x_kst (1000001 + k - 1000001)) = _
  rw [show Nat.blt (1000001 + k) 1000000 = false from Bool.eq_false_iff.mpr (fun e => by rw [Nat.blt_eq] at e; omega), cond_false, Nat.add_sub_cancel_left]
theorem st_getD {l : List Int} : ∀ {k : Nat}, l.getD k 0 = x_get 0 l k := by
  induction l with
  | nil => intro k; rw [x_get_nil]; rfl
  | cons y l ih => intro k; cases k with
    | zero => rfl
    | succ k => rw [x_get_s, ← ih]; rfl
theorem st_getN {l : List Nat} : ∀ {k : Nat}, ((l.getD k 0 : Nat) : Int) = x_get 0 (l.map (fun n => Int.ofNat n)) k := by
  induction l with
  | nil => intro k; rw [List.map_nil, x_get_nil]; rfl
  | cons y l ih => intro k; cases k with
    | zero => rfl
    | succ k => rw [List.map_cons, x_get_s, ← ih]; rfl
/-- the machine's picture of the start -/
theorem st_R {L : Nat} {xs : Nat → Int32} {f : Nat → x_O} : x_R (e_sh L) (st_m xs) (x_lim 0 f) (st_m xs, 0) := by
  refine ⟨fun a ha h0 => ?_, rfl⟩
  rw [x_lim_ge (Nat.zero_le a)]
  rcases st_cases ha with rfl | ⟨k, hk, rfl⟩ | ⟨k, hk, rfl⟩ | ⟨k, hk, rfl⟩
  · exact absurd rfl h0
  · rw [st_B, st_kT k hk, st_shT hk]
    refine ⟨rfl, fun _ j _ => ?_, fun _ => rfl⟩
    show st_m xs (1000001 + k) j = _
    rw [st_mT hk]
    exact st_getD
  · rw [show 1000005 + k = 1000001 + (k + 4) by omega, st_B, st_kK k hk, show 1000001 + (k + 4) = 1000005 + k by omega, st_shK hk]
    refine ⟨rfl, fun _ j _ => ?_, fun _ => rfl⟩
    show st_m xs (1000005 + k) j = _
    rw [st_mK hk, x_get_nil]
  · rw [show 1000034 + k = 1000001 + (k + 33) by omega, st_B, st_kV k hk, show 1000001 + (k + 33) = 1000034 + k by omega, st_shV hk]
    refine ⟨rfl, fun _ j _ => ?_, fun _ => rfl⟩
    show st_m xs (1000034 + k) j = _
    rw [st_mV hk]
    exact st_getN
theorem st_sA0 : x_sa (x_lim 0 x_b1) (x_lim 0 x_b1) 0 = true := rfl
theorem st_l0 : x_Bl (fun _ => 0) (x_lim 0 x_b1) := x_lim_l (g := x_b1) rfl
def st_b2 : Nat → x_O := x_ovr x_b1 [(4533, (23, 1, 0, []))]
def st_LS : List e_V := [.inr (.inr (.inl 1000000)), .inr (.inr (.inl 0)), .inr (.inr (.inl 4456)), .inr (.inr (.inl 4533)), .inl 0, .inr (.inr (.inr ())), .inr (.inr (.inr ())), .inr (.inr (.inr ()))]
theorem b_1 : x_fin2 (x_sg 4 (e_loc 8 [.inr (.inr (.inl 1000000))]) [.inr (.inr (.inl 0)), .inr (.inr (.inl 0))] x_C (x_lim 0 x_b1) (e_sh 0) 60 100 pL_beg pL_beg 0 (e_loc 8 [.inr (.inr (.inl 1000000))]) [] [] 0 []) (x_lim 0 x_b1) x_c1 1 = true := by decide +kernel
theorem b_1_l : x_Bl (fun _ => 0) (x_lim 1 x_c1) := by
  obtain ⟨M, o2, e, hM, hsa⟩ := x_fin2_ok b_1
  exact x_lim_l hsa
theorem b_2 : x_fin2 (x_sg 12 [.inr (.inr (.inl 1000000)), .inr (.inr (.inl 0)), .inr (.inr (.inr ())), .inr (.inr (.inr ())), .inr (.inr (.inr ())), .inr (.inr (.inr ())), .inr (.inr (.inr ())), .inr (.inr (.inr ()))] [.inr (.inr (.inl 4456)), .inr (.inr (.inl 4456))] x_C (x_lim 4456 x_c2) (e_sh 0) 60 100 pL_beg (pL_beg.drop 3) 7 (e_loc 8 [.inr (.inr (.inl 1000000))]) [.inr (.inr (.inl 0))] [] 4456 []) (x_lim 4456 x_c2) x_c19 4457 = true := by decide +kernel
theorem b_2_l : x_Bl (fun _ => 0) (x_lim 4457 x_c19) := by
  obtain ⟨M, o2, e, hM, hsa⟩ := x_fin2_ok b_2
  exact x_lim_l hsa
theorem b_20_l : x_Bl (fun _ => 0) (x_lim 4533 x_c20) := by
  obtain ⟨M, o2, e, hM, hsa⟩ := x_fin2_ok s_22
  exact x_lim_l hsa
theorem b_3 : x_fin2 (x_sg 23 st_LS [] x_C (x_lim 4533 x_c20) (e_sh 0) 60 100 pL_beg (pL_beg.drop 7) 15 [.inr (.inr (.inl 1000000)), .inr (.inr (.inl 0)), .inr (.inr (.inr ())), .inr (.inr (.inr ())), .inr (.inr (.inr ())), .inr (.inr (.inr ())), .inr (.inr (.inr ())), .inr (.inr (.inr ()))] [.inr (.inr (.inl 4456))] [] 4533 []) (x_lim 4533 x_c20) st_b2 4534 = true := by decide +kernel
/-- the law's beginning: from its entry to the head of its loop -/
theorem st_beg {L : Nat} {W : e_M} {Q : Option e_V → e_G → Prop} (k : x_Sg (e_sh L) W YL_law (656, 601024, 7293034) 0 Q 23 st_LS [] (x_lim 4534 st_b2) 4534) : x_Sg (e_sh L) W YL_law (656, 601024, 7293034) 0 Q 0 (e_loc 8 [.inr (.inr (.inl 1000000))]) [] (x_lim 0 x_b1) 0 := by
  have hall : ∀ i ∈ pL_beg, x_iok x_Ys YL_law i := fun i hi => x_all_mem qL_beg hi
  have hs : x_sl (e_sh L) 4534 ≤ 7293034 := by
    rw [st_slL 4534 (by decide)]
    exact Nat.le_trans (Nat.le_of_ble_eq_true st_sl) (by decide)
  have hz : x_sl (e_sh L) 0 = 0 := rfl
  have r2 : ∀ t, t ≤ 4534 → x_sl (e_sh L) t ≤ x_sl (e_sh L) 0 + (656, 601024, 7293034).2.2 := fun t ht => by
    have := x_sl_mono (sh := e_sh L) ht
    show x_sl (e_sh L) t ≤ x_sl (e_sh L) 0 + 7293034
    omega
  refine x_seg b_1 st_l0 (by decide) (by decide) hall hall (Nat.le_of_ble_eq_true rfl) rfl rfl rfl rfl st_sh (by decide) (by decide) (by decide) (r2 1 (by decide)) ?_
  refine x_segC (a := 0) (b := 1) (c := 1) (pc := 4) (ar := [.inr (.inr (.inl 0))]) (st := [.inr (.inr (.inl 0))]) (t2 := 4456) (x_all_mem qL_beg (List.mem_of_getElem? (i := 2) rfl)) rfl (Or.inr ⟨_, _, rfl, Or.inl rfl⟩) ⟨Nat.le_of_ble_eq_true rfl, Nat.le_of_ble_eq_true rfl⟩ (Nat.le_of_ble_eq_true rfl) (by decide) (by decide) (by decide) (r2 4456 (by decide)) (x_con1 st_sh (Nat.le_of_ble_eq_true rfl) (Nat.le_of_ble_eq_true rfl) (by have := x_sl_mono (sh := e_sh L) (show 1 ≤ 4456 by omega); show x_sl (e_sh L) 4456 ≤ x_sl (e_sh L) 1 + (x_sl (e_sh L) 4456 - x_sl (e_sh L) 1); omega) (fun g2 h1 h2 => ⟨rfl, h1, h2⟩)) ?_
  refine x_seg b_2 s_17_l (by decide) (by decide) hall (x_all_drop hall 3) (Nat.le_of_ble_eq_true rfl) rfl rfl rfl rfl st_sh (by decide) (by decide) (by decide) (r2 4457 (by decide)) ?_
  refine x_segC (a := 1) (b := 1) (c := 1) (pc := 12) (ar := [.inr (.inr (.inl 4456))]) (st := [.inr (.inr (.inl 4456))]) (t2 := 4533) (x_all_mem qL_beg (List.mem_of_getElem? (i := 6) rfl)) rfl (Or.inr ⟨_, _, rfl, Or.inl rfl⟩) ⟨Nat.le_of_ble_eq_true rfl, Nat.le_of_ble_eq_true rfl⟩ (Nat.le_of_ble_eq_true rfl) (by decide) (by decide) (by decide) (r2 4533 (by decide)) (x_con2 st_sh (Nat.le_of_ble_eq_true rfl) (Nat.le_of_ble_eq_true rfl) (by have := x_sl_mono (sh := e_sh L) (show 4457 ≤ 4533 by omega); show x_sl (e_sh L) 4533 ≤ x_sl (e_sh L) 4457 + (x_sl (e_sh L) 4533 - x_sl (e_sh L) 4457); omega) (fun g2 h1 h2 => ⟨rfl, h1, h2⟩)) ?_
  exact x_seg b_3 b_20_l (by decide) (by decide) hall (x_all_drop hall 7) (Nat.le_of_ble_eq_true rfl) rfl rfl rfl rfl st_sh (by decide) (by decide) (by decide) (r2 4534 (by decide)) k
end
