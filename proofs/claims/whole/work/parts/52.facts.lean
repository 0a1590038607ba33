/-! the class's World: facts and the sum -/
/-- what numbers stand for is there -/
def w_rgl (S : w_S) : Prop := ∀ i : Nat, (i : Int) < w_z S 0 → s_fb (w_l S i).2.1 ∧ (∀ c ∈ (w_l S i).2.2.1, 0 ≤ c ∧ c < w_z S 2) ∧ (∀ q ∈ (w_l S i).2.2.2, 0 ≤ q.1 ∧ q.1 < w_z S 1) ∧ s_ob 1000000 (w_l S i).2.2.2
def w_rgt (S : w_S) : Prop := ∀ s i : Nat, 1 ≤ s → s < 8 → (i : Int) < w_z S s → ((w_t S s i).1 5 < w_z S 1 ∧ (s ≠ 1 → s ≠ 3 → 0 ≤ (w_t S s i).1 5)) ∧ (∀ l ∈ (w_t S s i).2.1, 0 ≤ l ∧ l < w_z S 0) ∧ (∀ l ∈ (w_t S s i).2.2, 0 ≤ l ∧ l < w_z S (if s = 7 then 1 else 0))
def w_rg (S : w_S) : Prop := w_rgl S ∧ w_rgt S
def w_FA (s : Nat) : Nat := if s = 0 then 5 else if s = 1 then 4 else if s = 2 then 2 else if s ≤ 4 then 4 else if s = 5 then 1 else 2
theorem w_FAk : ∀ s, s < 7 → f_kt 1000003 s = (w_FA s : Int) := by decide +kernel
def b_i (b : Bool) : Int := if b = true then 1 else 0
def w_fact (S : w_S) (P : Nat → Int) (s i : Nat) (what : Int) : Int :=
  if what < 0 ∨ (w_FA s : Int) ≤ what then -1 else
  if s = 0 then (if what = 0 then g_area (w_l S i).2.1 else if what = 1 then (w_l S i).2.1.length else if what = 2 then (w_l S i).2.2.2.length else if what = 3 then (w_l S i).2.2.1.length else (w_l S i).1 2)
  else if s = 1 then (if what = 0 then (w_t S 1 i).1 7 else if what = 1 then (w_t S 1 i).1 4 else if what = 2 then b_i (w_age S i) else b_i (w_abl S i))
  else if s = 2 then (if what = 0 then (w_t S s i).1 6 else (w_t S s i).2.1.length)
  else if s = 3 then (if what = 0 then (w_t S s i).1 7 else if what = 1 then (w_t S s i).2.1.length else if what = 2 then (w_t S s i).2.2.length else P ((w_t S s i).1 11).toNat)
  else if s = 4 then (if what = 0 then (w_t S s i).1 6 else if what = 1 then (w_t S s i).2.1.length else if what = 2 then (w_t S s i).1 4 else (w_t S s i).1 3)
  else (if what = 0 then (w_t S s i).1 3 else (w_t S s i).2.1.length)
theorem k_lotFact {M : e_M} {w i : Nat} {what : Int} {Q : Int → Prop} (h : w_ok M w) (hi : i < 80) (hf : s_fb (w_l (w_of M w) i).2.1) (hw : 0 ≤ what ∧ what < 5) (P : Nat → Int) (hq : Q (w_fact (w_of M w) P 0 i what)) : WX10_lotFact (w_al w i) what M Q := by
  obtain ⟨h1, h2, h3⟩ := h.2.2.1 i hi
  have e1 := s_fig_len h1
  have e2 := s_row_len h2
  have e3 := s_own_len h3
  unfold w_fact at hq
  rw [w_l_k hi (by omega), w_l_e hi] at hq
  rw [w_l_e hi] at hf
  rw [if_neg (by have : w_FA 0 = 5 := rfl; omega), if_pos rfl] at hq
  change Q (if what = 0 then g_area (s_fig M (w_al w i + 1)) else if what = 1 then (s_fig M (w_al w i + 1)).length else if what = 2 then (s_own M (w_al w i)).length else if what = 3 then (s_row M (w_al w i + 4)).length else M (w_al w i) 2) at hq
  unfold WX10_lotFact VX10_lotFact
  refine ⟨fun e => c_area h1 hf ?_, fun n0 => ⟨fun e => ?_, fun n1 => ⟨fun e => ?_, fun n2 => ⟨fun e => ?_, fun n3 => ?_⟩⟩⟩⟩
  · rw [if_pos e] at hq; exact hq
  · rw [if_neg n0, if_pos e, e1] at hq; exact hq
  · rw [if_neg n0, if_neg n1, if_pos e, e3] at hq; exact hq
  · rw [if_neg n0, if_neg n1, if_neg n2, if_pos e, e2] at hq; exact hq
  · rw [if_neg n0, if_neg n1, if_neg n2, if_neg n3] at hq; exact hq
theorem k_personFact {M : e_M} {w : Nat} {p what : Int} {Q : Int → Prop} (h : w_ok M w) (hr : w_rgt (w_of M w)) (hp : 0 ≤ p ∧ p < M (w + 24) 1) (hw : 0 ≤ what ∧ what < 4) (P : Nat → Int) (hq : Q (w_fact (w_of M w) P 1 p.toNat what)) : WX10_personFact w p what M Q := by
  have hi := w_in (s := 1) (i := p.toNat) h (by omega) (by omega)
  have hwho := (hr 1 p.toNat (by omega) (by omega) (by show (p.toNat : Int) < M (w + 24) 1; omega)).1.1
  unfold w_fact at hq
  rw [w_t_k hi, w_t_k hi] at hq
  rw [if_neg (by have : w_FA 1 = 4 := rfl; omega), if_neg (by omega), if_pos rfl] at hq
  unfold WX10_personFact VX10_personFact
  refine ⟨fun e => k_at h (by omega) hp.1 hp.2 ?_, fun n0 => ⟨fun e => k_at h (by omega) hp.1 hp.2 ?_, fun n1 => ⟨fun e => ?_, fun n2 => ?_⟩⟩⟩
  · rw [if_pos e] at hq; exact hq
  · rw [if_neg n0, if_pos e] at hq; exact hq
  · rw [if_neg n0, if_neg n1, if_pos e] at hq
    refine k_age h hp (fun a => ⟨fun z => by omega, fun _ => ?_⟩) (fun a => ⟨fun _ => ?_, fun z => absurd rfl z⟩)
    · rw [a] at hq; exact hq
    · rw [a] at hq; exact hq
  · rw [if_neg n0, if_neg n1, if_neg n2] at hq
    refine k_able h hp hwho (fun a => ⟨fun z => by omega, fun _ => ?_⟩) (fun a => ⟨fun _ => ?_, fun z => absurd rfl z⟩)
    · rw [a] at hq; exact hq
    · rw [a] at hq; exact hq
theorem w_row1 {M : e_M} {t : Nat} (h : w_tok M t) : M (M t 9).toNat 1 = ((s_row M (t + 1)).length : Int) := by
  rw [h.2.1, s_row_len h.1.1, show ((t + 1 : Nat) : Int).toNat = t + 1 by omega]
theorem w_row2 {M : e_M} {t : Nat} (h : w_tok M t) : M (M t 10).toNat 1 = ((s_row M (t + 3)).length : Int) := by
  rw [h.2.2, s_row_len h.1.2, show ((t + 3 : Nat) : Int).toNat = t + 3 by omega]
theorem k_fact {M : e_M} {w : Nat} {s n what : Int} {Q : Int → Prop} (h : w_ok M w) (hr : w_rg (w_of M w)) (hs : 0 ≤ s ∧ s < 7) (hn : 0 ≤ n ∧ n < M (w + 24) s.toNat) (hq : Q (w_fact (w_of M w) (fun d => M d 18) s.toNat n.toNat what)) : WX10_fact w s n what M Q := by
  unfold WX10_fact VX10_fact
  have bad : (what < 0 ∨ (w_FA s.toNat : Int) ≤ what) → Q (-1) := fun e => by
    unfold w_fact at hq
    rw [if_pos e] at hq; exact hq
  refine ⟨fun e => bad (Or.inl e), fun hw0 => ⟨fun e => by omega, fun _ => ⟨fun e => by omega, fun _ => ⟨hs, ?_⟩⟩⟩⟩
  rw [w_FAk s.toNat (by omega)]
  refine ⟨fun hw1 => ?_, fun e => bad (Or.inr e)⟩
  by_cases s0 : s = 0
  · subst s0
    have hn2 : n < M (w + 24) 0 := hn.2
    have hi : n.toNat < 80 := w_in0 h (by omega)
    unfold WX10_at VX10_at
    have go : ∀ r : Nat, ((0 : Int) = 0 → WX10_lot w n M fun r5 => WX10_lotFact r5 what M fun r6 => Q r6) := fun r _ => k_lot h hn.1 hn.2 (k_lotFact h hi (hr.1 n.toNat (by show (n.toNat : Int) < M (w + 24) 0; omega)).1 ⟨hw0, hw1⟩ _ hq)
    exact ⟨fun _ => ⟨go 0, fun z => absurd rfl z⟩, fun z => absurd z (by omega)⟩
  · have hi := w_in (s := s.toNat) (i := n.toNat) h (by omega) (by omega)
    have ht := h.2.2.2 _ hi
    refine k_at h (by omega) hn.1 hn.2 ⟨fun z => absurd z s0, fun _ => ⟨fun e => ?_, fun n1 => ?_⟩⟩
    · subst e
      exact k_personFact h hr.2 hn ⟨hw0, hw1⟩ _ hq
    unfold w_fact at hq
    rw [if_neg (by omega), if_neg (by omega), if_neg (by omega), w_t_k hi, w_t_k hi, w_t_k hi, w_t_k hi, w_t_k hi, w_t_e hi] at hq
    change Q (if s.toNat = 2 then (if what = 0 then M (w_at w (w_F s.toNat + n.toNat)) 6 else ((s_row M (w_at w (w_F s.toNat + n.toNat) + 1)).length : Int)) else if s.toNat = 3 then (if what = 0 then M (w_at w (w_F s.toNat + n.toNat)) 7 else if what = 1 then ((s_row M (w_at w (w_F s.toNat + n.toNat) + 1)).length : Int) else if what = 2 then ((s_row M (w_at w (w_F s.toNat + n.toNat) + 3)).length : Int) else M (M (w_at w (w_F s.toNat + n.toNat)) 11).toNat 18) else if s.toNat = 4 then (if what = 0 then M (w_at w (w_F s.toNat + n.toNat)) 6 else if what = 1 then ((s_row M (w_at w (w_F s.toNat + n.toNat) + 1)).length : Int) else if what = 2 then M (w_at w (w_F s.toNat + n.toNat)) 4 else M (w_at w (w_F s.toNat + n.toNat)) 3) else (if what = 0 then M (w_at w (w_F s.toNat + n.toNat)) 3 else ((s_row M (w_at w (w_F s.toNat + n.toNat) + 1)).length : Int))) at hq
    rw [← w_row1 ht, ← w_row2 ht] at hq
    refine ⟨fun e => ?_, fun n2 => ⟨fun e => ?_, fun n3 => ⟨fun e => ?_, fun n4 => ?_⟩⟩⟩
    · rw [if_pos (by omega)] at hq
      refine ⟨fun z => ?_, fun z => ?_⟩
      · rw [if_neg z] at hq; exact hq
      · rw [if_pos z] at hq; exact hq
    · rw [if_neg (by omega), if_pos (by omega)] at hq
      unfold WX10_serveFact VX10_serveFact
      refine ⟨fun z => ?_, fun z0 => ⟨fun z => ?_, fun z1 => ⟨fun z => ?_, fun z2 => ?_⟩⟩⟩
      · rw [if_pos z] at hq; exact hq
      · rw [if_neg z0, if_pos z] at hq; exact hq
      · rw [if_neg z0, if_neg z1, if_pos z] at hq; exact hq
      · rw [if_neg z0, if_neg z1, if_neg z2] at hq; exact hq
    · rw [if_neg (by omega), if_neg (by omega), if_pos (by omega)] at hq
      unfold WX10_leaseFact VX10_leaseFact
      refine ⟨fun z => ?_, fun z0 => ⟨fun z => ?_, fun z1 => ⟨fun z => ?_, fun z2 => ?_⟩⟩⟩
      · rw [if_pos z] at hq; exact hq
      · rw [if_neg z0, if_pos z] at hq; exact hq
      · rw [if_neg z0, if_neg z1, if_pos z] at hq; exact hq
      · rw [if_neg z0, if_neg z1, if_neg z2] at hq; exact hq
    · rw [if_neg (by omega), if_neg (by omega), if_neg (by omega)] at hq
      refine ⟨fun z => ?_, fun z => ?_⟩
      · rw [if_neg z] at hq; exact hq
      · rw [if_pos z] at hq; exact hq
def w_ofact (S : w_S) (q : Int × Int × Int) (what : Int) : Int := if what ≤ 0 then g_cnt (w_thr S 1) q.1.toNat else if what = 1 then q.2.1 else q.2.2
theorem k_ownerFact {M : e_M} {w i : Nat} {k what : Int} {q : Int × Int × Int} {Q : Int → Prop} (h : w_ok M w) (hr : w_rgl (w_of M w)) (hi : (i : Int) < M (w + 24) 0) (hk : 0 ≤ k) (hg : (s_own M (w_al w i))[k.toNat]? = some q) (hq : Q (w_ofact (w_of M w) q what)) : WX10_ownerFact w (w_al w i) k what M Q := by
  have hi80 := w_in0 h hi
  obtain ⟨h1, h2, h3⟩ := h.2.2.1 i hi80
  have hl := s_own_len h3
  have hlt := (List.getElem?_eq_some_iff.mp hg).1
  have hkn : k < M (w_al w i) 8 := by omega
  have hk14 : 0 ≤ k ∧ k < 14 := ⟨hk, by have := h3.2; omega⟩
  have hqe := s_own_at (M := M) (a := w_al w i) (i := k.toNat) (by omega)
  rw [hg] at hqe
  have hqe := Option.some.inj hqe
  have hm := List.mem_of_getElem? hg
  have hrl := hr i hi
  rw [w_l_e hi80] at hrl
  have hwho := hrl.2.2.1 q hm
  have hob := hrl.2.2.2 q hm
  change 0 ≤ q.1 ∧ q.1 < M (w + 24) 1 at hwho
  subst hqe
  dsimp only at hwho hob
  unfold w_ofact at hq
  dsimp only at hq
  have hz := w_zb h (show 1 < 8 by omega)
  have hm1 : w_mx 1 = 40 := rfl
  unfold WX10_ownerFact VX10_ownerFact
  refine ⟨fun e => by omega, fun _ => ⟨fun _ => ⟨fun le => ?_, fun gt => ⟨fun n1 => ⟨hk14, ?_⟩, fun e1 => ⟨hk14, ?_⟩⟩⟩, fun e => by omega⟩⟩
  · rw [if_pos le] at hq
    generalize hp : M (w_al w i + 6) k.toNat = p at *
    refine s_up (P := fun d j s' => WX10_ownerFact_46 M Q d w (w_al w i) k s' j) (n := p) (fun j (m : Int) => m = g_cnt (w_thr (w_of M w) 1) j.toNat) hwho.1 rfl ?_ ?_
    · intro d m e
      refine ⟨hk14, fun _ => by rw [e]; exact hq, fun z => by omega⟩
    · intro d j m k1 k2 e ih
      have hle := g_cnt_le (f := w_thr (w_of M w) 1) (n := j.toNat)
      refine ⟨hk14, fun z => by omega, fun _ => k_there h (by omega) ⟨k1, by have := hwho.2; exact Int.lt_trans k2 this⟩ (fun t => ⟨fun z => by omega, fun _ => ?_⟩) (fun t => ⟨fun _ => ?_, fun z => absurd rfl z⟩)⟩
      · show WX10_ownerFact_46 M Q d w (w_al w i) k (e_w32 (m + 1)) (e_w32 (j + 1))
        rw [s_w (by omega) (by omega), s_w (by omega) (by omega)]
        refine ih _ ?_
        rw [show (j + 1).toNat = j.toNat + 1 by omega]
        unfold g_cnt
        rw [if_pos (show w_thr (w_of M w) 1 j.toNat = true from t)]; omega
      · show WX10_ownerFact_46 M Q d w (w_al w i) k (e_w32 (m + 0)) (e_w32 (j + 1))
        rw [s_w (by omega) (by omega), s_w (by omega) (by omega)]
        refine ih _ ?_
        rw [show (j + 1).toNat = j.toNat + 1 by omega]
        unfold g_cnt
        rw [if_neg (by rw [show w_thr (w_of M w) 1 j.toNat = false from t]; exact Bool.false_ne_true)]; omega
  · rw [if_neg (by omega), if_neg n1] at hq
    show Q (e_w32 _)
    rw [s_w (by omega) (by omega)]; exact hq
  · rw [if_neg (by omega), if_pos e1] at hq
    show Q (e_w32 _)
    rw [s_w (by omega) (by omega)]; exact hq
