/-! the system's constructor, in pieces -/
noncomputable section
def x_c1 : Nat → x_O := x_ovr x_b1 [(0, (11, 15, 0, [(-1), 0, 0, 0, 0, 0, (-1), 0, (-1), (-1), (-1), (-1), (-1), (-1), (-1)]))]
theorem x_sA1 : x_sa x_c1 x_c1 1 = true := by decide +kernel
theorem x_sA1_l : x_Bl (fun _ => 0) (x_lim 1 x_c1) := x_lim_l x_sA1
def x_c2 : Nat → x_O := x_b1
def x_c3 : Nat → x_O := x_ovr x_b1 [(0, (11, 15, 0, [1, 0, 0, 0, 0, 0, 2, 0, 3, (-1), (-1), (-1), (-1), (-1), (-1)])), (2, (32, 150, (-1), [])), (10, (7, 12, 0, [(-1), (-1), (-1), (-1), 0, 0, 0, 0, 0, (-1)]))]
def x_c4 : Nat → x_O := x_ovr x_b1 [(0, (11, 15, 0, [1, 0, 0, 0, 0, 0, 2, 0, 3, (-1), (-1), (-1), (-1), (-1), (-1)])), (2, (32, 150, (-1), []))]
def x_c5 : Nat → x_O := x_ovr x_b1 [(0, (11, 15, 0, [1, 0, 0, 0, 0, 0, 2, 0, 3, 10, 22, (-1), (-1), (-1), (-1)])), (2, (32, 150, (-1), [])), (25, (10, 15, 0, [(-1), (-1), (-1), (-1), (-1), (-1), (-1), (-1), (-1)]))]
def x_c6 : Nat → x_O := x_ovr x_b1 [(0, (11, 15, 0, [1, 0, 0, 0, 0, 0, 2, 0, 3, 10, 22, (-1), (-1), (-1), (-1)])), (2, (32, 150, (-1), []))]
def x_c7 : Nat → x_O := x_ovr x_b1 [(0, (11, 15, 0, [1, 0, 0, 0, 0, 0, 2, 0, 3, 10, 22, 25, (-1), (-1), (-1)])), (2, (32, 150, (-1), [])), (2224, (10, 15, 0, [(-1), (-1), (-1), (-1), (-1), (-1), (-1), (-1), (-1)]))]
def x_c8 : Nat → x_O := x_ovr x_b1 [(0, (11, 15, 0, [1, 0, 0, 0, 0, 0, 2, 0, 3, 10, 22, 25, (-1), (-1), (-1)])), (2, (32, 150, (-1), []))]
theorem s_1 : x_fin2 (x_sg 69 [.inr (.inr (.inl 0)), .inr (.inr (.inr ()))] [.inr (.inr (.inl 10)), .inr (.inr (.inl 10)), .inr (.inr (.inl 0))] x_C (x_lim 1 x_c1) (e_sh 0) 60000 40 pX11_init pX11_init 0 [.inr (.inr (.inl 0)), .inr (.inr (.inr ()))] [] [] 1 []) (x_lim 1 x_c1) x_c3 11 = true := by decide +kernel
theorem s_1_l : x_Bl (fun _ => 0) (x_lim 11 x_c3) := by
  obtain ⟨M, o2, e, hM, hsa⟩ := x_fin2_ok s_1
  exact x_lim_l hsa
def x_c9 : Nat → x_O := x_ovr x_b1 [(0, (11, 15, 0, [1, 0, 0, 0, 0, 0, 2, 0, 3, (-1), (-1), (-1), (-1), (-1), (-1)])), (2, (32, 150, (-1), []))]
def x_c10 : Nat → x_O := x_ovr x_b1 [(0, (11, 15, 0, [1, 0, 0, 0, 0, 0, 2, 0, 3, (-1), (-1), (-1), (-1), (-1), (-1)])), (2, (32, 150, (-1), []))]
theorem s_3 : x_fin2 (x_sg 125 [.inr (.inr (.inl 10)), .inl 57] [] x_C (x_lim 11 x_c3) (e_sh 0) 60000 39 pX7_init pX7_init 0 [.inr (.inr (.inl 10)), .inr (.inr (.inr ()))] [] [] 11 []) (x_lim 11 x_c3) x_c10 22 = true := by decide +kernel
theorem s_3_l : x_Bl (fun _ => 0) (x_lim 22 x_c10) := by
  obtain ⟨M, o2, e, hM, hsa⟩ := x_fin2_ok s_3
  exact x_lim_l hsa
theorem s_4 : x_fin2 (x_run x_C (x_lim 22 x_c10) (e_sh 0) 60000 39 pX7_init (pX7_init.drop 69) 125 [.inr (.inr (.inl 10)), .inl 57] [] [] 22 []) (x_lim 22 x_c10) x_c9 22 = true := by decide +kernel
theorem s_4_l : x_Bl (fun _ => 0) (x_lim 22 x_c9) := by
  obtain ⟨M, o2, e, hM, hsa⟩ := x_fin2_ok s_4
  exact x_lim_l hsa
theorem x_con1_c1 {sh : Nat → Nat × Nat} {W : e_M} {rm : Nat × Nat × Nat} {Q : Option e_V → e_G → Prop} (hS : ∀ a, a < 1000000 → e_sh 0 a = sh a) (hd : 39 ≤ rm.1) (r1 : 22 ≤ 11 + rm.2.1) (r2 : x_sl sh 22 ≤ x_sl sh 11 + rm.2.2) (hq : ∀ g2 : e_G, g2.2 = 22 → x_R sh W (x_lim 22 x_c9) g2 → Q none g2) :
    x_Sg sh W YX7_init rm 11 Q 0 (e_loc 2 [.inr (.inr (.inl 10))]) [] (x_lim 11 x_c3) 11 := by
  have hall : ∀ i ∈ pX7_init, x_iok x_Ys YX7_init i := fun i hi => x_all_mem qX7_init hi
  refine x_seg s_3 s_1_l (by decide) (by decide) hall hall (Nat.le_of_ble_eq_true rfl) rfl rfl rfl rfl hS (by omega) (by omega) (by omega) (Nat.le_trans (x_sl_mono (by omega)) r2) ?_
  exact x_segR s_4 s_3_l (by decide) (by decide) hall (x_all_drop hall 69) (Nat.le_of_ble_eq_true rfl) rfl rfl hS (by omega) (by omega) r1 r2 hq
theorem s_5 : x_fin2 (x_sg 95 [.inr (.inr (.inl 0)), .inr (.inr (.inr ()))] [.inr (.inr (.inl 25)), .inr (.inr (.inl 25)), .inr (.inr (.inl 0))] x_C (x_lim 22 x_c9) (e_sh 0) 60000 40 pX11_init (pX11_init.drop 37) 72 [.inr (.inr (.inl 0)), .inr (.inr (.inr ()))] [.inr (.inr (.inl 10)), .inr (.inr (.inl 0))] [] 22 []) (x_lim 22 x_c9) x_c5 26 = true := by decide +kernel
theorem s_5_l : x_Bl (fun _ => 0) (x_lim 26 x_c5) := by
  obtain ⟨M, o2, e, hM, hsa⟩ := x_fin2_ok s_5
  exact x_lim_l hsa
def x_c11 : Nat → x_O := x_ovr x_b1 [(0, (11, 15, 0, [1, 0, 0, 0, 0, 0, 2, 0, 3, 10, 22, (-1), (-1), (-1), (-1)])), (2, (32, 150, (-1), []))]
def x_c12 : Nat → x_O := x_ovr x_b1 [(0, (11, 15, 0, [1, 0, 0, 0, 0, 0, 2, 0, 3, 10, 22, (-1), (-1), (-1), (-1)])), (2, (32, 150, (-1), [])), (27, (39, 290, (-1), (List.range 33).map (fun i => Int.ofNat (774 + 5 * i)))), (53, (32, 150, (-1), []))]
def x_c13 : Nat → x_O := x_ovr x_b1 [(0, (11, 15, 0, [1, 0, 0, 0, 0, 0, 2, 0, 3, 10, 22, (-1), (-1), (-1), (-1)])), (2, (32, 150, (-1), [])), (27, (39, 290, (-1), (List.range 141).map (fun i => Int.ofNat (774 + 5 * i)))), (53, (32, 150, (-1), []))]
def x_c14 : Nat → x_O := x_ovr x_b1 [(0, (11, 15, 0, [1, 0, 0, 0, 0, 0, 2, 0, 3, 10, 22, (-1), (-1), (-1), (-1)])), (2, (32, 150, (-1), [])), (27, (39, 290, (-1), (List.range 249).map (fun i => Int.ofNat (774 + 5 * i)))), (53, (32, 150, (-1), []))]
theorem s_7 : x_fin2 (x_sg 193 [.inr (.inr (.inl 25)), .inr (.inr (.inl 38)), .inl 32] [] x_C (x_lim 26 x_c5) (e_sh 0) 60000 39 pX10_init pX10_init 0 [.inr (.inr (.inl 25)), .inr (.inr (.inr ())), .inr (.inr (.inr ()))] [] [] 26 []) (x_lim 26 x_c5) x_c12 939 = true := by decide +kernel
theorem s_7_l : x_Bl (fun _ => 0) (x_lim 939 x_c12) := by
  obtain ⟨M, o2, e, hM, hsa⟩ := x_fin2_ok s_7
  exact x_lim_l hsa
theorem s_8 : x_fin2 (x_sg 193 [.inr (.inr (.inl 25)), .inr (.inr (.inl 38)), .inl 140] [] x_C (x_lim 939 x_c12) (e_sh 0) 60000 39 pX10_init (pX10_init.drop 98) 193 [.inr (.inr (.inl 25)), .inr (.inr (.inl 38)), .inl 32] [] [] 939 []) (x_lim 939 x_c12) x_c13 1479 = true := by decide +kernel
theorem s_8_l : x_Bl (fun _ => 0) (x_lim 1479 x_c13) := by
  obtain ⟨M, o2, e, hM, hsa⟩ := x_fin2_ok s_8
  exact x_lim_l hsa
theorem s_9 : x_fin2 (x_sg 193 [.inr (.inr (.inl 25)), .inr (.inr (.inl 38)), .inl 248] [] x_C (x_lim 1479 x_c13) (e_sh 0) 60000 39 pX10_init (pX10_init.drop 98) 193 [.inr (.inr (.inl 25)), .inr (.inr (.inl 38)), .inl 140] [] [] 1479 []) (x_lim 1479 x_c13) x_c14 2019 = true := by decide +kernel
theorem s_9_l : x_Bl (fun _ => 0) (x_lim 2019 x_c14) := by
  obtain ⟨M, o2, e, hM, hsa⟩ := x_fin2_ok s_9
  exact x_lim_l hsa
theorem s_10 : x_fin2 (x_run x_C (x_lim 2019 x_c14) (e_sh 0) 60000 39 pX10_init (pX10_init.drop 98) 193 [.inr (.inr (.inl 25)), .inr (.inr (.inl 38)), .inl 248] [] [] 2019 []) (x_lim 2019 x_c14) x_c11 2224 = true := by decide +kernel
theorem s_10_l : x_Bl (fun _ => 0) (x_lim 2224 x_c11) := by
  obtain ⟨M, o2, e, hM, hsa⟩ := x_fin2_ok s_10
  exact x_lim_l hsa
theorem x_con1_c3 {sh : Nat → Nat × Nat} {W : e_M} {rm : Nat × Nat × Nat} {Q : Option e_V → e_G → Prop} (hS : ∀ a, a < 1000000 → e_sh 0 a = sh a) (hd : 39 ≤ rm.1) (r1 : 2224 ≤ 26 + rm.2.1) (r2 : x_sl sh 2224 ≤ x_sl sh 26 + rm.2.2) (hq : ∀ g2 : e_G, g2.2 = 2224 → x_R sh W (x_lim 2224 x_c11) g2 → Q none g2) :
    x_Sg sh W YX10_init rm 26 Q 0 (e_loc 3 [.inr (.inr (.inl 25))]) [] (x_lim 26 x_c5) 26 := by
  have hall : ∀ i ∈ pX10_init, x_iok x_Ys YX10_init i := fun i hi => x_all_mem qX10_init hi
  refine x_seg s_7 s_5_l (by decide) (by decide) hall hall (Nat.le_of_ble_eq_true rfl) rfl rfl rfl rfl hS (by omega) (by omega) (by omega) (Nat.le_trans (x_sl_mono (by omega)) r2) ?_
  refine x_seg s_8 s_7_l (by decide) (by decide) hall (x_all_drop hall 98) (Nat.le_of_ble_eq_true rfl) rfl rfl rfl rfl hS (by omega) (by omega) (by omega) (Nat.le_trans (x_sl_mono (by omega)) r2) ?_
  refine x_seg s_9 s_8_l (by decide) (by decide) hall (x_all_drop hall 98) (Nat.le_of_ble_eq_true rfl) rfl rfl rfl rfl hS (by omega) (by omega) (by omega) (Nat.le_trans (x_sl_mono (by omega)) r2) ?_
  exact x_segR s_10 s_9_l (by decide) (by decide) hall (x_all_drop hall 98) (Nat.le_of_ble_eq_true rfl) rfl rfl hS (by omega) (by omega) r1 r2 hq
theorem s_11 : x_fin2 (x_sg 106 [.inr (.inr (.inl 0)), .inr (.inr (.inr ()))] [.inr (.inr (.inl 2224)), .inr (.inr (.inl 2224)), .inr (.inr (.inl 0))] x_C (x_lim 2224 x_c11) (e_sh 0) 60000 40 pX11_init (pX11_init.drop 49) 98 [.inr (.inr (.inl 0)), .inr (.inr (.inr ()))] [.inr (.inr (.inl 25)), .inr (.inr (.inl 0))] [] 2224 []) (x_lim 2224 x_c11) x_c7 2225 = true := by decide +kernel
theorem s_11_l : x_Bl (fun _ => 0) (x_lim 2225 x_c7) := by
  obtain ⟨M, o2, e, hM, hsa⟩ := x_fin2_ok s_11
  exact x_lim_l hsa
def x_c15 : Nat → x_O := x_ovr x_b1 [(0, (11, 15, 0, [1, 0, 0, 0, 0, 0, 2, 0, 3, 10, 22, 25, (-1), (-1), (-1)])), (2, (32, 150, (-1), []))]
def x_c16 : Nat → x_O := x_ovr x_b1 [(0, (11, 15, 0, [1, 0, 0, 0, 0, 0, 2, 0, 3, 10, 22, 25, (-1), (-1), (-1)])), (2, (32, 150, (-1), [])), (2226, (39, 290, (-1), (List.range 33).map (fun i => Int.ofNat (2973 + 5 * i)))), (2252, (32, 150, (-1), []))]
def x_c17 : Nat → x_O := x_ovr x_b1 [(0, (11, 15, 0, [1, 0, 0, 0, 0, 0, 2, 0, 3, 10, 22, 25, (-1), (-1), (-1)])), (2, (32, 150, (-1), [])), (2226, (39, 290, (-1), (List.range 141).map (fun i => Int.ofNat (2973 + 5 * i)))), (2252, (32, 150, (-1), []))]
def x_c18 : Nat → x_O := x_ovr x_b1 [(0, (11, 15, 0, [1, 0, 0, 0, 0, 0, 2, 0, 3, 10, 22, 25, (-1), (-1), (-1)])), (2, (32, 150, (-1), [])), (2226, (39, 290, (-1), (List.range 249).map (fun i => Int.ofNat (2973 + 5 * i)))), (2252, (32, 150, (-1), []))]
theorem s_13 : x_fin2 (x_sg 193 [.inr (.inr (.inl 2224)), .inr (.inr (.inl 2237)), .inl 32] [] x_C (x_lim 2225 x_c7) (e_sh 0) 60000 39 pX10_init pX10_init 0 [.inr (.inr (.inl 2224)), .inr (.inr (.inr ())), .inr (.inr (.inr ()))] [] [] 2225 []) (x_lim 2225 x_c7) x_c16 3138 = true := by decide +kernel
theorem s_13_l : x_Bl (fun _ => 0) (x_lim 3138 x_c16) := by
  obtain ⟨M, o2, e, hM, hsa⟩ := x_fin2_ok s_13
  exact x_lim_l hsa
theorem s_14 : x_fin2 (x_sg 193 [.inr (.inr (.inl 2224)), .inr (.inr (.inl 2237)), .inl 140] [] x_C (x_lim 3138 x_c16) (e_sh 0) 60000 39 pX10_init (pX10_init.drop 98) 193 [.inr (.inr (.inl 2224)), .inr (.inr (.inl 2237)), .inl 32] [] [] 3138 []) (x_lim 3138 x_c16) x_c17 3678 = true := by decide +kernel
theorem s_14_l : x_Bl (fun _ => 0) (x_lim 3678 x_c17) := by
  obtain ⟨M, o2, e, hM, hsa⟩ := x_fin2_ok s_14
  exact x_lim_l hsa
theorem s_15 : x_fin2 (x_sg 193 [.inr (.inr (.inl 2224)), .inr (.inr (.inl 2237)), .inl 248] [] x_C (x_lim 3678 x_c17) (e_sh 0) 60000 39 pX10_init (pX10_init.drop 98) 193 [.inr (.inr (.inl 2224)), .inr (.inr (.inl 2237)), .inl 140] [] [] 3678 []) (x_lim 3678 x_c17) x_c18 4218 = true := by decide +kernel
theorem s_15_l : x_Bl (fun _ => 0) (x_lim 4218 x_c18) := by
  obtain ⟨M, o2, e, hM, hsa⟩ := x_fin2_ok s_15
  exact x_lim_l hsa
theorem s_16 : x_fin2 (x_run x_C (x_lim 4218 x_c18) (e_sh 0) 60000 39 pX10_init (pX10_init.drop 98) 193 [.inr (.inr (.inl 2224)), .inr (.inr (.inl 2237)), .inl 248] [] [] 4218 []) (x_lim 4218 x_c18) x_c15 4423 = true := by decide +kernel
theorem s_16_l : x_Bl (fun _ => 0) (x_lim 4423 x_c15) := by
  obtain ⟨M, o2, e, hM, hsa⟩ := x_fin2_ok s_16
  exact x_lim_l hsa
theorem x_con1_c5 {sh : Nat → Nat × Nat} {W : e_M} {rm : Nat × Nat × Nat} {Q : Option e_V → e_G → Prop} (hS : ∀ a, a < 1000000 → e_sh 0 a = sh a) (hd : 39 ≤ rm.1) (r1 : 4423 ≤ 2225 + rm.2.1) (r2 : x_sl sh 4423 ≤ x_sl sh 2225 + rm.2.2) (hq : ∀ g2 : e_G, g2.2 = 4423 → x_R sh W (x_lim 4423 x_c15) g2 → Q none g2) :
    x_Sg sh W YX10_init rm 2225 Q 0 (e_loc 3 [.inr (.inr (.inl 2224))]) [] (x_lim 2225 x_c7) 2225 := by
  have hall : ∀ i ∈ pX10_init, x_iok x_Ys YX10_init i := fun i hi => x_all_mem qX10_init hi
  refine x_seg s_13 s_11_l (by decide) (by decide) hall hall (Nat.le_of_ble_eq_true rfl) rfl rfl rfl rfl hS (by omega) (by omega) (by omega) (Nat.le_trans (x_sl_mono (by omega)) r2) ?_
  refine x_seg s_14 s_13_l (by decide) (by decide) hall (x_all_drop hall 98) (Nat.le_of_ble_eq_true rfl) rfl rfl rfl rfl hS (by omega) (by omega) (by omega) (Nat.le_trans (x_sl_mono (by omega)) r2) ?_
  refine x_seg s_15 s_14_l (by decide) (by decide) hall (x_all_drop hall 98) (Nat.le_of_ble_eq_true rfl) rfl rfl rfl rfl hS (by omega) (by omega) (by omega) (Nat.le_trans (x_sl_mono (by omega)) r2) ?_
  exact x_segR s_16 s_15_l (by decide) (by decide) hall (x_all_drop hall 98) (Nat.le_of_ble_eq_true rfl) rfl rfl hS (by omega) (by omega) r1 r2 hq
theorem s_17 : x_fin2 (x_run x_C (x_lim 4423 x_c15) (e_sh 0) 60000 40 pX11_init (pX11_init.drop 54) 109 [.inr (.inr (.inl 0)), .inr (.inr (.inr ()))] [.inr (.inr (.inl 2224)), .inr (.inr (.inl 0))] [] 4423 []) (x_lim 4423 x_c15) x_c2 4456 = true := by decide +kernel
theorem s_17_l : x_Bl (fun _ => 0) (x_lim 4456 x_c2) := by
  obtain ⟨M, o2, e, hM, hsa⟩ := x_fin2_ok s_17
  exact x_lim_l hsa
theorem x_con1 {sh : Nat → Nat × Nat} {W : e_M} {rm : Nat × Nat × Nat} {T0 : Nat} {Q : Option e_V → e_G → Prop} (hS : ∀ a, a < 1000000 → e_sh 0 a = sh a) (hd : 40 ≤ rm.1) (r1 : 4456 ≤ T0 + rm.2.1) (r2 : x_sl sh 4456 ≤ x_sl sh T0 + rm.2.2) (hq : ∀ g2 : e_G, g2.2 = 4456 → x_R sh W (x_lim 4456 x_c2) g2 → Q none g2) :
    x_Sg sh W YX11_init rm T0 Q 0 (e_loc 2 [.inr (.inr (.inl 0))]) [] (x_lim 1 x_c1) 1 := by
  have hall : ∀ i ∈ pX11_init, x_iok x_Ys YX11_init i := fun i hi => x_all_mem qX11_init hi
  refine x_seg s_1 x_sA1_l (by decide) (by decide) hall hall (Nat.le_of_ble_eq_true rfl) rfl rfl rfl rfl hS (by omega) (by omega) (by omega) (Nat.le_trans (x_sl_mono (by omega)) r2) ?_
  refine x_segC (a := 3) (b := 1) (c := 1) (pc := 69) (ar := [.inr (.inr (.inl 10))]) (st := [.inr (.inr (.inl 10)), .inr (.inr (.inl 0))]) (t2 := 22) (x_all_mem qX11_init (List.mem_of_getElem? (i := 36) rfl)) rfl (Or.inr ⟨_, _, rfl, Or.inl rfl⟩) ⟨Nat.le_of_ble_eq_true rfl, Nat.le_of_ble_eq_true rfl⟩ (Nat.le_of_ble_eq_true rfl) (by omega) (by omega) (by omega) (Nat.le_trans (x_sl_mono (by omega)) r2) (x_con1_c1 hS (by show 39 ≤ rm.1 - 1; omega) (by show 22 ≤ 11 + (22 - 11); omega) (by have := x_sl_mono (sh := sh) (show 11 ≤ 22 by omega); show x_sl sh 22 ≤ x_sl sh 11 + (x_sl sh 22 - x_sl sh 11); omega) (fun g2 h1 h2 => ⟨rfl, h1, h2⟩)) ?_
  refine x_seg s_5 s_4_l (by decide) (by decide) hall (x_all_drop hall 37) (Nat.le_of_ble_eq_true rfl) rfl rfl rfl rfl hS (by omega) (by omega) (by omega) (Nat.le_trans (x_sl_mono (by omega)) r2) ?_
  refine x_segC (a := 5) (b := 1) (c := 1) (pc := 95) (ar := [.inr (.inr (.inl 25))]) (st := [.inr (.inr (.inl 25)), .inr (.inr (.inl 0))]) (t2 := 2224) (x_all_mem qX11_init (List.mem_of_getElem? (i := 48) rfl)) rfl (Or.inr ⟨_, _, rfl, Or.inl rfl⟩) ⟨Nat.le_of_ble_eq_true rfl, Nat.le_of_ble_eq_true rfl⟩ (Nat.le_of_ble_eq_true rfl) (by omega) (by omega) (by omega) (Nat.le_trans (x_sl_mono (by omega)) r2) (x_con1_c3 hS (by show 39 ≤ rm.1 - 1; omega) (by show 2224 ≤ 26 + (2224 - 26); omega) (by have := x_sl_mono (sh := sh) (show 26 ≤ 2224 by omega); show x_sl sh 2224 ≤ x_sl sh 26 + (x_sl sh 2224 - x_sl sh 26); omega) (fun g2 h1 h2 => ⟨rfl, h1, h2⟩)) ?_
  refine x_seg s_11 s_10_l (by decide) (by decide) hall (x_all_drop hall 49) (Nat.le_of_ble_eq_true rfl) rfl rfl rfl rfl hS (by omega) (by omega) (by omega) (Nat.le_trans (x_sl_mono (by omega)) r2) ?_
  refine x_segC (a := 5) (b := 1) (c := 1) (pc := 106) (ar := [.inr (.inr (.inl 2224))]) (st := [.inr (.inr (.inl 2224)), .inr (.inr (.inl 0))]) (t2 := 4423) (x_all_mem qX11_init (List.mem_of_getElem? (i := 53) rfl)) rfl (Or.inr ⟨_, _, rfl, Or.inl rfl⟩) ⟨Nat.le_of_ble_eq_true rfl, Nat.le_of_ble_eq_true rfl⟩ (Nat.le_of_ble_eq_true rfl) (by omega) (by omega) (by omega) (Nat.le_trans (x_sl_mono (by omega)) r2) (x_con1_c5 hS (by show 39 ≤ rm.1 - 1; omega) (by show 4423 ≤ 2225 + (4423 - 2225); omega) (by have := x_sl_mono (sh := sh) (show 2225 ≤ 4423 by omega); show x_sl sh 4423 ≤ x_sl sh 2225 + (x_sl sh 4423 - x_sl sh 2225); omega) (fun g2 h1 h2 => ⟨rfl, h1, h2⟩)) ?_
  exact x_segR s_17 s_16_l (by decide) (by decide) hall (x_all_drop hall 54) (Nat.le_of_ble_eq_true rfl) rfl rfl hS (by omega) (by omega) r1 r2 hq
end
