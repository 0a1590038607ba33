/-! the class's World: the sum, what there is before all DEEDS -/
def w_mix (a b : Int) : Int := f_xorJ (e_w64 (a * 1000003)) b
theorem k_mix {M : e_M} {a b : Int} {Q : Int → Prop} (hq : Q (w_mix a b)) : WX10_mix a b M Q := hq
theorem s_fold_succ {f : Nat → Int} {n : Int} {x : Int} (h : 0 ≤ n) : (s_ar f (n + 1)).foldl w_mix x = w_mix ((s_ar f n).foldl w_mix x) (f n.toNat) := by
  rw [s_ar_succ h, List.foldl_append]; rfl
theorem s_ar_fn {f g : Nat → Int} {n : Int} {x : Int} (h : ∀ i, i < n.toNat → f i = g i) : (s_ar f n).foldl w_mix x = (s_ar g n).foldl w_mix x := by rw [s_ar_congr h]
/-- what is mixed in of one thing -/
def w_vlot (S : w_S) (l : w_L) : List Int := l.2.1.flatMap (fun p => [p.1, p.2]) ++ (l.2.2.2.flatMap (fun q => [w_ofact S q 0, w_ofact S q 1, w_ofact S q 2]) ++ l.2.2.1.map (fun c => (w_t S 2 c.toNat).1 0))
def w_vth (S : w_S) (s : Nat) (t : w_T) : List Int := t.2.1.map (fun l => w_nm S 0 l.toNat) ++ (t.2.2.map (fun l => w_nm S 0 l.toNat) ++ (if s = 3 then [] else [(w_t S 1 (t.1 5).toNat).1 0]))
def w_vals (S : w_S) (P : Nat → Int) (s i : Nat) : List Int := w_nm S s i :: (s_ar (fun k => w_fact S P s i k) (w_FA s) ++ (if s = 0 then w_vlot S (w_l S i) else if s = 1 then [] else w_vth S s (w_t S s i)))
theorem w_row_get {M : e_M} {a : Nat} {i : Int} {x : Int} (h0 : 0 ≤ i) (h : (s_row M a)[i.toNat]? = some x) : r_get (s_row M a) i = x := by unfold r_get; rw [if_pos h0, h]; rfl
theorem k_mixLot {M : e_M} {w i : Nat} {x : Int} {Q : Int → Prop} (h : w_ok M w) (hr : w_rgl (w_of M w)) (hi : (i : Int) < M (w + 24) 0) (hq : Q ((w_vlot (w_of M w) (w_l (w_of M w) i)).foldl w_mix x)) : WX10_mixLot w x (w_al w i) M Q := by
  have hi80 := w_in0 h hi
  obtain ⟨h1, h2, h3⟩ := h.2.2.1 i hi80
  have l1 := s_fig_len h1
  have l2 := s_row_len h2
  have l3 := s_own_len h3
  have hrl := hr i hi
  rw [w_l_e hi80] at hrl hq
  change Q ((((s_fig M (w_al w i + 1)).flatMap _) ++ (((s_own M (w_al w i)).flatMap _) ++ ((s_row M (w_al w i + 4)).map _))).foldl w_mix x) at hq
  rw [List.foldl_append, List.foldl_append] at hq
  obtain ⟨h10, h140⟩ := id h1
  obtain ⟨h20, h28⟩ := id h2
  obtain ⟨h30, h314⟩ := id h3
  unfold WX10_mixLot VX10_mixLot
  refine s_up (P := fun d j s' => WX10_mixLot_6 M Q d w (w_al w i) s' j) (n := M (w_al w i + 1) 2) (fun j (m : Int) => m = (((s_fig M (w_al w i + 1)).take j.toNat).flatMap (fun p => [p.1, p.2])).foldl w_mix x) h10 rfl ?_ ?_
  · intro d m e
    refine ⟨fun _ => ?_, fun z => by omega⟩
    rw [List.take_of_length_le (by omega)] at e
    rw [← e] at hq
    refine s_up (P := fun d j s' => WX10_mixLot_59 M Q d w (w_al w i) s' j) (n := M (w_al w i) 8) (fun j (m' : Int) => m' = (((s_own M (w_al w i)).take j.toNat).flatMap (fun q => [w_ofact (w_of M w) q 0, w_ofact (w_of M w) q 1, w_ofact (w_of M w) q 2])).foldl w_mix m) h30 rfl ?_ ?_
    · intro d m' e'
      refine ⟨fun _ => ?_, fun z => by omega⟩
      rw [List.take_of_length_le (by omega)] at e'
      rw [← e'] at hq
      refine s_up (P := fun d j s' => WX10_mixLot_109 M Q d w (w_al w i) s' j) (n := M (w_al w i + 4) 1) (fun j (m'' : Int) => m'' = (((s_row M (w_al w i + 4)).take j.toNat).map (fun c => (w_t (w_of M w) 2 c.toNat).1 0)).foldl w_mix m') h20 rfl ?_ ?_
      · intro d m'' e''
        refine ⟨fun _ => ?_, fun z => by omega⟩
        rw [List.take_of_length_le (by omega)] at e''
        rw [e'']; exact hq
      · intro d j m'' k1 k2 e'' ih
        have hg := s_row_at (M := M) (a := w_al w i + 4) (i := j.toNat) (by omega)
        have hc := hrl.2.1 _ (List.mem_of_getElem? hg)
        change 0 ≤ M (w_al w i + 4 + 1) j.toNat ∧ M (w_al w i + 4 + 1) j.toNat < M (w + 24) 2 at hc
        refine ⟨fun z => by omega, fun _ => c_rget h2 ?_⟩
        rw [w_row_get k1 hg]
        have hin := w_in (s := 2) (i := (M (w_al w i + 4 + 1) j.toNat).toNat) h (by omega) (by omega)
        refine k_at h (by omega) hc.1 hc.2 (k_mix ?_)
        rw [s_w (by omega) (by omega)]
        refine ih _ ?_
        rw [show (j + 1).toNat = j.toNat + 1 by omega, List.take_add_one, hg]
        simp only [Option.toList_some, List.map_append, List.foldl_append, List.map_cons, List.map_nil, List.foldl_cons, List.foldl_nil]
        rw [← e'', w_t_k hin]; rfl
    · intro d j m' k1 k2 e' ih
      have hg := s_own_at (M := M) (a := w_al w i) (i := j.toNat) (by omega)
      refine ⟨fun z => by omega, fun _ => ?_⟩
      refine s_up (P := fun d2 j2 s' => WX10_mixLot_71 M (WX10_mixLot_59 M Q d) Q d2 w (w_al w i) s' j j2) (n := 3) (fun j2 (m'' : Int) => m'' = (s_ar (fun k => w_ofact (w_of M w) (M (w_al w i + 6) j.toNat, M (w_al w i + 7) j.toNat, M (w_al w i + 8) j.toNat) k) j2).foldl w_mix m') (by omega) rfl ?_ ?_
      · intro d2 m'' e''
        refine ⟨fun _ => ?_, fun z => by omega⟩
        rw [s_w (by omega) (by omega)]
        refine ih _ ?_
        rw [show (j + 1).toNat = j.toNat + 1 by omega, List.take_add_one, hg]
        simp only [Option.toList_some, List.flatMap_append, List.foldl_append, List.flatMap_cons, List.flatMap_nil, List.append_nil]
        rw [← e', e'']; rfl
      · intro d2 j2 m'' k3 k4 e'' ih2
        refine ⟨fun z => by omega, fun _ => k_ownerFact h hr hi k1 hg (k_mix ?_)⟩
        rw [s_w (by omega) (by omega)]
        refine ih2 _ ?_
        rw [s_fold_succ k3, ← e'', show ((j2.toNat : Nat) : Int) = j2 by omega]
  · intro d j m k1 k2 e ih
    have hg := s_fig_at (M := M) (a := w_al w i + 1) (i := j.toNat) (by omega)
    refine ⟨fun z => by omega, fun _ => ⟨⟨k1, by omega⟩, k_mix ⟨⟨k1, by omega⟩, k_mix ?_⟩⟩⟩
    rw [s_w (by omega) (by omega)]
    refine ih _ ?_
    rw [show (j + 1).toNat = j.toNat + 1 by omega, List.take_add_one, hg]
    simp only [Option.toList_some, List.flatMap_append, List.foldl_append, List.flatMap_cons, List.flatMap_nil, List.append_nil, List.foldl_cons, List.foldl_nil]
    rw [← e]
theorem k_mixIn {M : e_M} {w : Nat} {x s n : Int} {Q : Int → Prop} (h : w_ok M w) (hr : w_rg (w_of M w)) (hs : 0 ≤ s ∧ s < 7) (hn : 0 ≤ n ∧ n < M (w + 24) s.toNat) (hq : Q ((w_vals (w_of M w) (fun d => M d 18) s.toNat n.toNat).foldl w_mix x)) : WX10_mixIn w x s n M Q := by
  unfold WX10_mixIn VX10_mixIn
  unfold w_vals at hq
  rw [List.foldl_cons, List.foldl_append] at hq
  refine k_nameOf h (by omega) hn (k_mix ?_)
  generalize hx : w_mix x (w_nm (w_of M w) s.toNat n.toNat) = x1 at *
  have hfa : w_FA s.toNat ≤ 5 := by unfold w_FA; (repeat' split) <;> omega
  refine s_up (P := fun d j s' => WX10_mixIn_16 M Q d w s n s' j) (n := w_FA s.toNat) (fun j (m : Int) => m = (s_ar (fun k => w_fact (w_of M w) (fun d => M d 18) s.toNat n.toNat k) j).foldl w_mix x1) (by omega) rfl ?_ ?_
  · intro d m e
    refine ⟨hs, ?_⟩
    rw [w_FAk s.toNat (by omega)]
    refine ⟨fun _ => ⟨fun s0 => ⟨fun s1 => ?_, fun e1 => ?_⟩, fun e0 => ?_⟩, fun z => by omega⟩
    · rw [← e, if_neg (by omega), if_neg (by omega)] at hq
      have hi := w_in (s := s.toNat) (i := n.toNat) h (by omega) (by omega)
      have ht := h.2.2.2 _ hi
      have hrt := hr.2 s.toNat n.toNat (by omega) (by omega) (by show (n.toNat : Int) < M (w + 24) s.toNat; omega)
      rw [w_t_e hi] at hrt hq
      have l1 := s_row_len ht.1.1
      have l2 := s_row_len ht.1.2
      obtain ⟨⟨a10, a18⟩, a30, a38⟩ := id ht.1
      unfold w_vth at hq
      rw [List.foldl_append, List.foldl_append] at hq
      refine k_at h (by omega) hn.1 hn.2 ?_
      generalize ht' : w_at w (w_F s.toNat + n.toNat) = t at *
      have x9 : (M t 9).toNat = t + 1 := by rw [ht.2.1]; omega
      have x10 : (M t 10).toNat = t + 3 := by rw [ht.2.2]; omega
      have hz := w_zb h (show 0 < 8 by omega)
      obtain ⟨⟨hw1, hw2⟩, hl1, hl2⟩ := hrt
      replace hl1 : ∀ l ∈ s_row M (t + 1), 0 ≤ l ∧ l < M (w + 24) 0 := hl1
      replace hl2 : ∀ l ∈ s_row M (t + 3), 0 ≤ l ∧ l < M (w + 24) 0 := fun l hl => by
        have := hl2 l hl
        rw [if_neg (by omega)] at this
        exact this
      replace hw1 : M t 5 < M (w + 24) 1 := hw1
      replace hw2 : s.toNat ≠ 1 → s.toNat ≠ 3 → 0 ≤ M t 5 := hw2
      change Q (List.foldl w_mix (List.foldl w_mix (List.foldl w_mix m ((s_row M (t + 1)).map _)) ((s_row M (t + 3)).map _)) _) at hq
      refine s_up (P := fun d j s' => WX10_mixIn_86 M Q d w s s' t j) (n := M (t + 1) 1) (fun j (m' : Int) => m' = (((s_row M (t + 1)).take j.toNat).map (fun l => w_nm (w_of M w) 0 l.toNat)).foldl w_mix m) a10 rfl ?_ ?_
      · intro d m' e'
        rw [List.take_of_length_le (by omega)] at e'
        rw [← e'] at hq
        unfold WX10_mixIn_86 VX10_mixIn_86
        rw [x9]
        refine ⟨fun _ => ?_, fun z => by omega⟩
        refine s_up (P := fun d j s' => WX10_mixIn_132 M Q d w s s' t j) (n := M (t + 3) 1) (fun j (m'' : Int) => m'' = (((s_row M (t + 3)).take j.toNat).map (fun l => w_nm (w_of M w) 0 l.toNat)).foldl w_mix m') a30 rfl ?_ ?_
        · intro d m'' e''
          rw [List.take_of_length_le (by omega)] at e''
          rw [← e''] at hq
          unfold WX10_mixIn_132 VX10_mixIn_132
          rw [x10]
          refine ⟨fun _ => ⟨fun s3 => ?_, fun e3 => ?_⟩, fun z => by omega⟩
          · rw [if_neg (by omega)] at hq
            have hge := hw2 (by omega) (by omega)
            have hin := w_in (s := 1) (i := (M t 5).toNat) h (by omega) (by omega)
            refine k_at h (by omega) hge hw1 (k_mix ?_)
            have hq' : Q (w_mix m'' ((w_t (w_of M w) 1 (M t 5).toNat).1 0)) := hq
            rw [w_t_k hin] at hq'
            exact hq'
          · rw [if_pos (by omega)] at hq
            exact hq
        · intro d j m'' k1 k2 e'' ih
          have hg := s_row_at (M := M) (a := t + 3) (i := j.toNat) (by omega)
          have hc := hl2 _ (List.mem_of_getElem? hg)
          unfold WX10_mixIn_132 VX10_mixIn_132
          rw [x10]
          refine ⟨fun z => by omega, fun _ => c_rget ht.1.2 ?_⟩
          rw [w_row_get k1 hg]
          have hin : (M (t + 3 + 1) j.toNat).toNat < 80 := w_in0 h (by omega)
          refine k_lot h hc.1 hc.2 (k_mix ?_)
          rw [s_w (by omega) (by omega)]
          refine ih _ ?_
          rw [show (j + 1).toNat = j.toNat + 1 by omega, List.take_add_one, hg]
          simp only [Option.toList_some, List.map_append, List.foldl_append, List.map_cons, List.map_nil, List.foldl_cons, List.foldl_nil]
          rw [← e'']
          unfold w_nm
          rw [if_pos rfl, w_l_k hin (by omega)]
      · intro d j m' k1 k2 e' ih
        have hg := s_row_at (M := M) (a := t + 1) (i := j.toNat) (by omega)
        have hc := hl1 _ (List.mem_of_getElem? hg)
        unfold WX10_mixIn_86 VX10_mixIn_86
        rw [x9]
        refine ⟨fun z => by omega, fun _ => c_rget ht.1.1 ?_⟩
        rw [w_row_get k1 hg]
        have hin : (M (t + 1 + 1) j.toNat).toNat < 80 := w_in0 h (by omega)
        refine k_lot h hc.1 hc.2 (k_mix ?_)
        rw [s_w (by omega) (by omega)]
        refine ih _ ?_
        rw [show (j + 1).toNat = j.toNat + 1 by omega, List.take_add_one, hg]
        simp only [Option.toList_some, List.map_append, List.foldl_append, List.map_cons, List.map_nil, List.foldl_cons, List.foldl_nil]
        rw [← e']
        unfold w_nm
        rw [if_pos rfl, w_l_k hin (by omega)]
    · rw [← e, if_neg (by omega), if_pos (by omega)] at hq
      exact hq
    · subst e0
      have hn2 : n < M (w + 24) 0 := hn.2
      rw [← e, if_pos (show (0 : Int).toNat = 0 from rfl)] at hq
      exact k_lot h hn.1 hn.2 (k_mixLot h hr.1 (by omega) hq)
  · intro d j m k1 k2 e ih
    refine ⟨hs, ?_⟩
    rw [w_FAk s.toNat (by omega)]
    refine ⟨fun z => by omega, fun _ => k_fact h hr hs hn (k_mix ?_)⟩
    rw [s_w (by omega) (by omega)]
    refine ih _ ?_
    rw [s_fold_succ k1, ← e, show ((j.toNat : Nat) : Int) = j by omega]
