/-! Acts: going through the things; guard, firm, close -/
def w_srt (j : Nat) : Nat := if j < 40 then 1 else if j < 80 then 2 else if j < 120 then 3 else if j < 160 then 4 else if j < 200 then 5 else if j < 230 then 6 else 7
theorem w_srt_F {s i : Nat} (hs : 1 ≤ s ∧ s < 8) (hi : i < w_mx s) : w_srt (w_F s + i) = s := by
  have cs : s = 1 ∨ s = 2 ∨ s = 3 ∨ s = 4 ∨ s = 5 ∨ s = 6 ∨ s = 7 := by omega
  have f1 : w_F 1 = 0 := rfl
  have f2 : w_F 2 = 40 := rfl
  have f3 : w_F 3 = 80 := rfl
  have f4 : w_F 4 = 120 := rfl
  have f5 : w_F 5 = 160 := rfl
  have f6 : w_F 6 = 200 := rfl
  have f7 : w_F 7 = 230 := rfl
  have m1 : w_mx 1 = 40 := rfl
  have m2 : w_mx 2 = 40 := rfl
  have m3 : w_mx 3 = 40 := rfl
  have m4 : w_mx 4 = 40 := rfl
  have m5 : w_mx 5 = 40 := rfl
  have m6 : w_mx 6 = 30 := rfl
  unfold w_srt
  rcases cs with e | e | e | e | e | e | e <;> subst e <;> (repeat' split) <;> omega
theorem w_srt_lt {j : Nat} (h : j < 290) : 1 ≤ w_srt j ∧ w_srt j < 8 ∧ w_F (w_srt j) ≤ j ∧ j < w_F (w_srt j) + w_mx (w_srt j) := by
  unfold w_srt
  (repeat' split) <;> refine ⟨by omega, by omega, ?_, ?_⟩ <;> simp only [w_F, w_mx] <;> simp <;> omega
/-- things gone through: sorts from lo on, all ahead of the i-th of sort s -/
def w_mpc (S : w_S) (lo s i : Nat) (j : Nat) : Bool := decide (lo ≤ w_srt j) && (decide (j < 290) && ((decide (w_srt j < s) && decide (((j - w_F (w_srt j) : Nat) : Int) < S.1 (w_srt j))) || (decide (w_srt j = s) && decide (j < w_F s + i))))
theorem w_mpc_iff {S : w_S} {lo s i j : Nat} : w_mpc S lo s i j = true ↔ lo ≤ w_srt j ∧ j < 290 ∧ ((w_srt j < s ∧ ((j - w_F (w_srt j) : Nat) : Int) < S.1 (w_srt j)) ∨ (w_srt j = s ∧ j < w_F s + i)) := by
  unfold w_mpc; simp
def w_mp (S : w_S) (lo : Nat) (f : Nat → w_T → w_T) (s i : Nat) : w_S := (S.1, S.2.1, fun j => if w_mpc S lo s i j = true then f (w_srt j) (S.2.2.1 j) else S.2.2.1 j, S.2.2.2)
theorem w_mp_ext {S : w_S} {lo s i s' i' : Nat} {f : Nat → w_T → w_T} (h : ∀ j, w_mpc S lo s i j = true ↔ w_mpc S lo s' i' j = true) : w_mp S lo f s i = w_mp S lo f s' i' := by
  unfold w_mp
  refine Prod.ext rfl (Prod.ext rfl (Prod.ext (funext fun j => ?_) rfl))
  show (if _ then _ else _) = if _ then _ else _
  by_cases c : w_mpc S lo s i j = true
  · rw [if_pos c, if_pos ((h j).mp c)]
  · rw [if_neg c, if_neg (fun z => c ((h j).mpr z))]
theorem w_mp_0 {S : w_S} {lo : Nat} {f : Nat → w_T → w_T} (h1 : 1 ≤ lo) (h8 : lo < 8) : w_mp S lo f lo 0 = S := by
  unfold w_mp
  refine Prod.ext rfl (Prod.ext rfl (Prod.ext (funext fun j => ?_) rfl))
  show (if _ then _ else _) = _
  rw [if_neg]
  intro z
  obtain ⟨z1, z2, z3⟩ := w_mpc_iff.mp z
  have := w_srt_lt z2
  rcases z3 with ⟨z3, -⟩ | ⟨z3, z4⟩
  · omega
  · rw [z3] at this; omega
theorem w_mp_next {S : w_S} {lo s n : Nat} {f : Nat → w_T → w_T} (hs : 1 ≤ s ∧ s < 8) (hlo : lo ≤ s) (hn : (n : Int) = S.1 s) (hm : n ≤ w_mx s) : w_mp S lo f s n = w_mp S lo f (s + 1) 0 := by
  refine w_mp_ext (fun j => ?_)
  rw [w_mpc_iff, w_mpc_iff]
  constructor
  · rintro ⟨z1, z2, z3⟩
    have hj := w_srt_lt z2
    refine ⟨z1, z2, Or.inl ?_⟩
    rcases z3 with ⟨z3, z4⟩ | ⟨z3, z4⟩
    · exact ⟨by omega, z4⟩
    · rw [z3] at hj ⊢
      exact ⟨by omega, by omega⟩
  · rintro ⟨z1, z2, z3⟩
    have hj := w_srt_lt z2
    refine ⟨z1, z2, ?_⟩
    rcases z3 with ⟨z3, z4⟩ | ⟨z3, z4⟩
    · by_cases c : w_srt j = s
      · rw [c] at hj z4
        exact Or.inr ⟨c, by omega⟩
      · exact Or.inl ⟨by omega, z4⟩
    · rw [z3] at hj; omega
theorem w_mp_at {S : w_S} {lo s i : Nat} {f : Nat → w_T → w_T} (hs : 1 ≤ s ∧ s < 8) (hi : i < w_mx s) : (w_mp S lo f s i).2.2.1 (w_F s + i) = S.2.2.1 (w_F s + i) := by
  show (if _ then _ else _) = _
  rw [if_neg]
  intro z
  obtain ⟨z1, z2, z3⟩ := w_mpc_iff.mp z
  rw [w_srt_F hs hi] at z3
  omega
theorem w_mp_step {S : w_S} {lo s i : Nat} {f : Nat → w_T → w_T} (hs : 1 ≤ s ∧ s < 8) (hlo : lo ≤ s) (hi : i < w_mx s) : w_mp S lo f s (i + 1) = w_setT (w_mp S lo f s i) (w_F s + i) (f s (w_t S s i)) := by
  have h290 := w_F_lt s hs.2 hs.1
  unfold w_setT
  refine Prod.ext rfl (Prod.ext rfl (Prod.ext (funext fun j => ?_) rfl))
  show (if _ then _ else _) = s_fu _ _ _ j
  by_cases c : j = w_F s + i
  · rw [c, s_fu_eq, if_pos (w_mpc_iff.mpr ⟨by rw [w_srt_F hs hi]; exact hlo, by omega, Or.inr ⟨w_srt_F hs hi, by omega⟩⟩), w_srt_F hs hi]
    rfl
  · rw [s_fu_ne c]
    show _ = (if _ then _ else _)
    have : w_mpc S lo s (i + 1) j = true ↔ w_mpc S lo s i j = true := by
      rw [w_mpc_iff, w_mpc_iff]
      constructor
      · rintro ⟨z1, z2, z3⟩
        exact ⟨z1, z2, by rcases z3 with z | ⟨z3, z4⟩; exact Or.inl z; exact Or.inr ⟨z3, by omega⟩⟩
      · rintro ⟨z1, z2, z3⟩
        exact ⟨z1, z2, by rcases z3 with z | ⟨z3, z4⟩; exact Or.inl z; exact Or.inr ⟨z3, by omega⟩⟩
    by_cases c2 : w_mpc S lo s i j = true
    · rw [if_pos (this.mpr c2), if_pos c2]
    · rw [if_neg (fun z => c2 (this.mp z)), if_neg c2]
theorem w_mp_keep {S : w_S} {lo s i : Nat} {f : Nat → w_T → w_T} (hs : 1 ≤ s ∧ s < 8) (hlo : lo ≤ s) (hi : i < w_mx s) (h : f s (w_t S s i) = w_t S s i) : w_mp S lo f s (i + 1) = w_mp S lo f s i := by
  rw [w_mp_step hs hlo hi, h]
  unfold w_setT
  refine Prod.ext rfl (Prod.ext rfl (Prod.ext (funext fun j => ?_) rfl))
  show s_fu _ _ _ j = _
  by_cases c : j = w_F s + i
  · rw [c, s_fu_eq, w_mp_at hs hi]; rfl
  · rw [s_fu_ne c]
/-- all things of some sorts changed, one by one -/
def w_map (S : w_S) (lo hi : Nat) (f : Nat → w_T → w_T) : w_S := w_mp S lo f (hi + 1) 0
def t_ends (dead heir : Int) (s : Nat) (t : w_T) : w_T := if t.1 5 = dead then (if s = 2 then (s_fu t.1 5 heir, t.2) else (s_fu t.1 2 1, t.2)) else t
theorem k_endRights {M : e_M} {w d : Nat} {at_ dead heir : Int} {Q : e_M → Prop} (h : w_ok M w) (hw : a_w w) (cx : a_cx M w d at_) (hq : ∀ M', w_ok M' w → w_of M' w = w_map (w_of M w) 2 6 (t_ends dead heir) → w_fr M M' w → Q M') : WX0_endRightsOf dead heir M Q := by
  unfold a_w at hw
  unfold WX0_endRightsOf VX0_endRightsOf
  refine s_up (P := fun d i N => WX0_endRightsOf_2 Q d dead heir i N) (n := 7) (fun s N => w_ok N w ∧ w_of N w = w_mp (w_of M w) 2 (t_ends dead heir) s.toNat 0 ∧ w_fr M N w) (by omega) ⟨h, (w_mp_0 (by omega) (by omega)).symm, w_fr_refl⟩ ?_ ?_
  · intro d2 N ⟨n1, n2, n3⟩
    exact ⟨fun _ => hq N n1 n2 n3, fun z => by omega⟩
  · intro d2 s N s1 s2 ⟨n1, n2, n3⟩ ih
    have hs : 1 ≤ s.toNat ∧ s.toNat < 8 := by omega
    have hz := w_zb h hs.2
    have hm := w_F_lt s.toNat hs.2 hs.1
    refine ⟨fun z => by omega, fun _ => ?_⟩
    refine s_up (P := fun d i N => WX0_endRightsOf_11 (WX0_endRightsOf_2 Q d2) Q d dead heir s i N) (n := M (w + 24) s.toNat) (fun i N => w_ok N w ∧ w_of N w = w_mp (w_of M w) 2 (t_ends dead heir) s.toNat i.toNat ∧ w_fr M N w) hz.1 ⟨n1, n2, n3⟩ ?_ ?_
    · intro d3 A ⟨a1, a2, a3⟩
      unfold WX0_endRightsOf_11 VX0_endRightsOf_11
      rw [(a_cx_congr cx (a3 4423 (by omega) (by omega))).1]
      have az : A (w + 24) = M (w + 24) := congrArg (fun S : w_S => S.1) a2
      rw [az]
      refine ⟨by omega, fun _ => ?_, fun z => by omega⟩
      rw [s_w (by omega) (by omega)]
      refine ih A ⟨a1, ?_, a3⟩
      rw [a2, w_mp_next hs (by omega) (by show ((M (w + 24) s.toNat).toNat : Int) = M (w + 24) s.toNat; omega) (by omega), show (s + 1).toNat = s.toNat + 1 by omega]
    · intro d3 i A i1 i2 ⟨a1, a2, a3⟩ ih2
      unfold WX0_endRightsOf_11 VX0_endRightsOf_11
      rw [(a_cx_congr cx (a3 4423 (by omega) (by omega))).1]
      have az : A (w + 24) = M (w + 24) := congrArg (fun S : w_S => S.1) a2
      have himx : i.toNat < w_mx s.toNat := by omega
      have hin : w_F s.toNat + i.toNat < 290 := by omega
      have hat : x_th A (w_at w (w_F s.toNat + i.toNat)) = w_t (w_of M w) s.toNat i.toNat := by
        have := congrFun (congrArg (fun S : w_S => S.2.2.1) a2) (w_F s.toNat + i.toNat)
        rw [w_of_t hin] at this
        rw [this]
        exact w_mp_at hs himx
      have hA : A (w_at w (w_F s.toNat + i.toNat)) = (w_t (w_of M w) s.toNat i.toNat).1 := congrArg (fun t : w_T => t.1) hat
      have keep : t_ends dead heir s.toNat (w_t (w_of M w) s.toNat i.toNat) = w_t (w_of M w) s.toNat i.toNat → WX0_endRightsOf_75 (WX0_endRightsOf_2 Q d2) (WX0_endRightsOf_11 (WX0_endRightsOf_2 Q d2) Q d3) Q dead heir s i A := by
        intro e
        show WX0_endRightsOf_11 (WX0_endRightsOf_2 Q d2) Q d3 dead heir s (e_w32 (i + 1)) A
        rw [s_w (by omega) (by omega)]
        refine ih2 A ⟨a1, ?_, a3⟩
        rw [show (i + 1).toNat = i.toNat + 1 by omega, w_mp_keep hs (by omega) himx e, a2]
      have change_ : ∀ (k : Nat) (v : Int), k ≠ 9 → k ≠ 10 → t_ends dead heir s.toNat (w_t (w_of M w) s.toNat i.toNat) = (s_fu (w_t (w_of M w) s.toNat i.toNat).1 k v, (w_t (w_of M w) s.toNat i.toNat).2) → WX0_endRightsOf_75 (WX0_endRightsOf_2 Q d2) (WX0_endRightsOf_11 (WX0_endRightsOf_2 Q d2) Q d3) Q dead heir s i (e_up A (w_at w (w_F s.toNat + i.toNat)) k v) := by
        intro k v k9 k10 e
        show WX0_endRightsOf_11 (WX0_endRightsOf_2 Q d2) Q d3 dead heir s (e_w32 (i + 1)) _
        rw [s_w (by omega) (by omega)]
        obtain ⟨u1, u2, u3⟩ := k_tset a1 hin (k := k) (v := v) k9 k10
        refine ih2 _ ⟨u1, ?_, w_fr_trans a3 u3⟩
        rw [u2, hA, show (i + 1).toNat = i.toNat + 1 by omega, w_mp_step hs (by omega) himx, e, a2, w_mp_at hs himx]
        rfl
      have e60 : ¬ ((w_t (w_of M w) s.toNat i.toNat).1 5 = dead ∧ s = 2) → WX0_endRightsOf_60 (WX0_endRightsOf_2 Q d2) (WX0_endRightsOf_11 (WX0_endRightsOf_2 Q d2) Q d3) Q dead heir s i (w_at w (w_F s.toNat + i.toNat)) A := by
        intro ne
        unfold WX0_endRightsOf_60 VX0_endRightsOf_60
        rw [hA]
        refine ⟨fun n5 => keep (by unfold t_ends; rw [if_neg n5]), fun e5 => ⟨by omega, fun M1 e1 => ?_⟩⟩
        rw [e1]
        exact change_ 2 1 (by omega) (by omega) (by unfold t_ends; rw [if_pos e5, if_neg (fun z => ne ⟨e5, by omega⟩)])
      refine ⟨by omega, fun z => by rw [az] at z; omega, fun _ => k_at a1 (by omega) i1 (by rw [az]; exact i2) ?_⟩
      rw [hA]
      refine ⟨fun n5 => e60 (fun z => n5 z.1), fun e5 => ⟨fun n2' => e60 (fun z => n2' z.2), fun e2 => fun M2 q2 => ?_⟩⟩
      rw [q2]
      exact change_ 5 heir (by omega) (by omega) (by unfold t_ends; rw [if_pos e5, if_pos (by omega)])
