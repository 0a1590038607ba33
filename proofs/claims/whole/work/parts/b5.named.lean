/-! THE MODEL: what the NAMES of a DEED stand for -/
def m_acs : List Int := [4, 6, 8, 9, 10, 11, 14, 16, 17, 18, 19, 20, 21, 23, 24, 25, 29, 30, 32, 33, 34, 35]
/-- the model's number of an ACT -/
def m_ac (a : Int) : Int := m_acs.getD (a - 200).toNat 0
def wk (v : Int) : Int := if v = 11 ∨ v = 12 then 1 else v
def wm (v : Int) : Int := if v = 10 then 7 else if v = 13 then 8 else wk v
theorem g_rep {n k : Nat} {v x : Int} (h : (List.replicate n v)[k]? = some x) : x = v := by
  obtain ⟨a, b⟩ := List.getElem?_eq_some_iff.mp h
  rw [← b, List.getElem_replicate]
theorem m_wn200 {M : e_M} {told v : Int} {k : Nat} {Q : Int → Prop} (hl : (k : Int) < told ∧ told ≤ 8) (h : (v_ws 200 told)[k]? = some v) (hq : Q (wm v)) : WX12_wanted 4 k told M Q ∧ ((0 ≤ v ∧ v ≤ 6) ∨ (10 ≤ v ∧ v ≤ 13)) := by
  unfold WX12_wanted VX12_wanted
  have e : v_ws 200 told = [10] := rfl
  rw [e] at h
  match k, h with
  | 0, h =>
    have ev : v = 10 := (Option.some.inj h).symm
    subst ev
    have hq : Q 7 := hq
    refine ⟨?_, by omega⟩
    simp [hq]
  | n + 1, h => cases h
theorem m_wn201 {M : e_M} {told v : Int} {k : Nat} {Q : Int → Prop} (hl : (k : Int) < told ∧ told ≤ 8) (h : (v_ws 201 told)[k]? = some v) (hq : Q (wm v)) : WX12_wanted 6 k told M Q ∧ ((0 ≤ v ∧ v ≤ 6) ∨ (10 ≤ v ∧ v ≤ 13)) := by
  unfold WX12_wanted VX12_wanted
  have e : v_ws 201 told = [10, 11] := rfl
  rw [e] at h
  match k, h with
  | 0, h =>
    have ev : v = 10 := (Option.some.inj h).symm
    subst ev
    have hq : Q 7 := hq
    refine ⟨?_, by omega⟩
    simp [hq]
  | 1, h =>
    have ev : v = 11 := (Option.some.inj h).symm
    subst ev
    have hq : Q 1 := hq
    refine ⟨?_, by omega⟩
    simp [hq]
  | n + 2, h => cases h
theorem m_wn202 {M : e_M} {told v : Int} {k : Nat} {Q : Int → Prop} (hl : (k : Int) < told ∧ told ≤ 8) (h : (v_ws 202 told)[k]? = some v) (hq : Q (wm v)) : WX12_wanted 8 k told M Q ∧ ((0 ≤ v ∧ v ≤ 6) ∨ (10 ≤ v ∧ v ≤ 13)) := by
  unfold WX12_wanted VX12_wanted
  have e : v_ws 202 told = [11, 11] := rfl
  rw [e] at h
  match k, h with
  | 0, h =>
    have ev : v = 11 := (Option.some.inj h).symm
    subst ev
    have hq : Q 1 := hq
    refine ⟨?_, by omega⟩
    simp [hq]
  | 1, h =>
    have ev : v = 11 := (Option.some.inj h).symm
    subst ev
    have hq : Q 1 := hq
    refine ⟨?_, by omega⟩
    simp [hq]
  | n + 2, h => cases h
theorem m_wn203 {M : e_M} {told v : Int} {k : Nat} {Q : Int → Prop} (hl : (k : Int) < told ∧ told ≤ 8) (h : (v_ws 203 told)[k]? = some v) (hq : Q (wm v)) : WX12_wanted 9 k told M Q ∧ ((0 ≤ v ∧ v ≤ 6) ∨ (10 ≤ v ∧ v ≤ 13)) := by
  unfold WX12_wanted VX12_wanted
  have e : v_ws 203 told = 11 :: List.replicate (told - 1).toNat 1 := rfl
  rw [e] at h
  match k, h with
  | 0, h =>
    have ev : v = 11 := (Option.some.inj h).symm
    subst ev
    have hq : Q 1 := hq
    exact ⟨by simp [hq], by omega⟩
  | n + 1, h =>
    have ev : v = 1 := g_rep (n := (told - 1).toNat) (k := n) h
    subst ev
    have hq : Q 1 := hq
    exact ⟨by simp [hq], by omega⟩
theorem m_wn204 {M : e_M} {told v : Int} {k : Nat} {Q : Int → Prop} (hl : (k : Int) < told ∧ told ≤ 8) (h : (v_ws 204 told)[k]? = some v) (hq : Q (wm v)) : WX12_wanted 10 k told M Q ∧ ((0 ≤ v ∧ v ≤ 6) ∨ (10 ≤ v ∧ v ≤ 13)) := by
  unfold WX12_wanted VX12_wanted
  have e : v_ws 204 told = [12] := rfl
  rw [e] at h
  match k, h with
  | 0, h =>
    have ev : v = 12 := (Option.some.inj h).symm
    subst ev
    have hq : Q 1 := hq
    refine ⟨?_, by omega⟩
    simp [hq]
  | n + 1, h => cases h
theorem m_wn205 {M : e_M} {told v : Int} {k : Nat} {Q : Int → Prop} (hl : (k : Int) < told ∧ told ≤ 8) (h : (v_ws 205 told)[k]? = some v) (hq : Q (wm v)) : WX12_wanted 11 k told M Q ∧ ((0 ≤ v ∧ v ≤ 6) ∨ (10 ≤ v ∧ v ≤ 13)) := by
  unfold WX12_wanted VX12_wanted
  have e : v_ws 205 told = 0 :: 1 :: List.replicate (told - 2).toNat 1 := rfl
  rw [e] at h
  match k, h with
  | 0, h =>
    have ev : v = 0 := (Option.some.inj h).symm
    subst ev
    have hq : Q 0 := hq
    exact ⟨by simp [hq], by omega⟩
  | 1, h =>
    have ev : v = 1 := (Option.some.inj h).symm
    subst ev
    have hq : Q 1 := hq
    exact ⟨by simp [hq], by omega⟩
  | n + 2, h =>
    have ev : v = 1 := g_rep (n := (told - 2).toNat) (k := n) h
    subst ev
    have hq : Q 1 := hq
    refine ⟨?_, by omega⟩
    simp [hq]
    intro z
    omega
theorem m_wn206 {M : e_M} {told v : Int} {k : Nat} {Q : Int → Prop} (hl : (k : Int) < told ∧ told ≤ 8) (h : (v_ws 206 told)[k]? = some v) (hq : Q (wm v)) : WX12_wanted 14 k told M Q ∧ ((0 ≤ v ∧ v ≤ 6) ∨ (10 ≤ v ∧ v ≤ 13)) := by
  unfold WX12_wanted VX12_wanted
  have e : v_ws 206 told = [0, 10, 10] := rfl
  rw [e] at h
  match k, h with
  | 0, h =>
    have ev : v = 0 := (Option.some.inj h).symm
    subst ev
    have hq : Q 0 := hq
    refine ⟨?_, by omega⟩
    simp [hq]
  | 1, h =>
    have ev : v = 10 := (Option.some.inj h).symm
    subst ev
    have hq : Q 7 := hq
    refine ⟨?_, by omega⟩
    simp [hq]
  | 2, h =>
    have ev : v = 10 := (Option.some.inj h).symm
    subst ev
    have hq : Q 7 := hq
    refine ⟨?_, by omega⟩
    simp [hq]
  | n + 3, h => cases h
theorem m_wn207 {M : e_M} {told v : Int} {k : Nat} {Q : Int → Prop} (hl : (k : Int) < told ∧ told ≤ 8) (h : (v_ws 207 told)[k]? = some v) (hq : Q (wm v)) : WX12_wanted 16 k told M Q ∧ ((0 ≤ v ∧ v ≤ 6) ∨ (10 ≤ v ∧ v ≤ 13)) := by
  unfold WX12_wanted VX12_wanted
  have e : v_ws 207 told = [0, 0, 10] := rfl
  rw [e] at h
  match k, h with
  | 0, h =>
    have ev : v = 0 := (Option.some.inj h).symm
    subst ev
    have hq : Q 0 := hq
    refine ⟨?_, by omega⟩
    simp [hq]
  | 1, h =>
    have ev : v = 0 := (Option.some.inj h).symm
    subst ev
    have hq : Q 0 := hq
    refine ⟨?_, by omega⟩
    simp [hq]
  | 2, h =>
    have ev : v = 10 := (Option.some.inj h).symm
    subst ev
    have hq : Q 7 := hq
    refine ⟨?_, by omega⟩
    simp [hq]
  | n + 3, h => cases h
theorem m_wn208 {M : e_M} {told v : Int} {k : Nat} {Q : Int → Prop} (hl : (k : Int) < told ∧ told ≤ 8) (h : (v_ws 208 told)[k]? = some v) (hq : Q (wm v)) : WX12_wanted 17 k told M Q ∧ ((0 ≤ v ∧ v ≤ 6) ∨ (10 ≤ v ∧ v ≤ 13)) := by
  unfold WX12_wanted VX12_wanted
  have e : v_ws 208 told = [0, 0] := rfl
  rw [e] at h
  match k, h with
  | 0, h =>
    have ev : v = 0 := (Option.some.inj h).symm
    subst ev
    have hq : Q 0 := hq
    refine ⟨?_, by omega⟩
    simp [hq]
  | 1, h =>
    have ev : v = 0 := (Option.some.inj h).symm
    subst ev
    have hq : Q 0 := hq
    refine ⟨?_, by omega⟩
    simp [hq]
  | n + 2, h => cases h
theorem m_wn209 {M : e_M} {told v : Int} {k : Nat} {Q : Int → Prop} (hl : (k : Int) < told ∧ told ≤ 8) (h : (v_ws 209 told)[k]? = some v) (hq : Q (wm v)) : WX12_wanted 18 k told M Q ∧ ((0 ≤ v ∧ v ≤ 6) ∨ (10 ≤ v ∧ v ≤ 13)) := by
  unfold WX12_wanted VX12_wanted
  have e : v_ws 209 told = 10 :: (List.replicate (told - 2).toNat 0 ++ [1]) := rfl
  rw [e] at h
  have w1 : e_w32 (told - 1) = told - 1 := s_w (by omega) (by omega)
  match k, h with
  | 0, h =>
    have ev : v = 10 := (Option.some.inj h).symm
    subst ev
    have hq : Q 7 := hq
    exact ⟨by simp [hq], by omega⟩
  | n + 1, h =>
    have h : (List.replicate (told - 2).toNat (0 : Int) ++ [1])[n]? = some v := h
    have n0 : ¬ (((n + 1 : Nat)) : Int) = 0 := by omega
    by_cases c : n < (told - 2).toNat
    · rw [List.getElem?_append_left (by rw [List.length_replicate]; exact c)] at h
      have ev : v = 0 := g_rep h
      subst ev
      have hq : Q 0 := hq
      have n1 : ¬ (((n + 1 : Nat)) : Int) = told - 1 := by omega
      refine ⟨?_, by omega⟩
      rw [w1]
      simp only [n0, n1]
      simp [hq]
    · rw [List.getElem?_append_right (by rw [List.length_replicate]; omega), List.length_replicate] at h
      have e0 : n - (told - 2).toNat = 0 := by
        obtain ⟨a, -⟩ := List.getElem?_eq_some_iff.mp h
        rw [List.length_singleton] at a
        omega
      rw [e0] at h
      have ev : v = 1 := (Option.some.inj h).symm
      subst ev
      have hq : Q 1 := hq
      have n1 : (((n + 1 : Nat)) : Int) = told - 1 := by omega
      refine ⟨?_, by omega⟩
      rw [w1]
      simp only [n0, n1]
      simp [hq]
      intro z
      omega
theorem m_wn210 {M : e_M} {told v : Int} {k : Nat} {Q : Int → Prop} (hl : (k : Int) < told ∧ told ≤ 8) (h : (v_ws 210 told)[k]? = some v) (hq : Q (wm v)) : WX12_wanted 19 k told M Q ∧ ((0 ≤ v ∧ v ≤ 6) ∨ (10 ≤ v ∧ v ≤ 13)) := by
  unfold WX12_wanted VX12_wanted
  have e : v_ws 210 told = [2] := rfl
  rw [e] at h
  match k, h with
  | 0, h =>
    have ev : v = 2 := (Option.some.inj h).symm
    subst ev
    have hq : Q 2 := hq
    refine ⟨?_, by omega⟩
    simp [hq]
  | n + 1, h => cases h
theorem m_wn211 {M : e_M} {told v : Int} {k : Nat} {Q : Int → Prop} (hl : (k : Int) < told ∧ told ≤ 8) (h : (v_ws 211 told)[k]? = some v) (hq : Q (wm v)) : WX12_wanted 20 k told M Q ∧ ((0 ≤ v ∧ v ≤ 6) ∨ (10 ≤ v ∧ v ≤ 13)) := by
  unfold WX12_wanted VX12_wanted
  have e : v_ws 211 told = [2, 1] := rfl
  rw [e] at h
  match k, h with
  | 0, h =>
    have ev : v = 2 := (Option.some.inj h).symm
    subst ev
    have hq : Q 2 := hq
    refine ⟨?_, by omega⟩
    simp [hq]
  | 1, h =>
    have ev : v = 1 := (Option.some.inj h).symm
    subst ev
    have hq : Q 1 := hq
    refine ⟨?_, by omega⟩
    simp [hq]
  | n + 2, h => cases h
theorem m_wn212 {M : e_M} {told v : Int} {k : Nat} {Q : Int → Prop} (hl : (k : Int) < told ∧ told ≤ 8) (h : (v_ws 212 told)[k]? = some v) (hq : Q (wm v)) : WX12_wanted 21 k told M Q ∧ ((0 ≤ v ∧ v ≤ 6) ∨ (10 ≤ v ∧ v ≤ 13)) := by
  unfold WX12_wanted VX12_wanted
  have e : v_ws 212 told = [2, 2, 0] := rfl
  rw [e] at h
  match k, h with
  | 0, h =>
    have ev : v = 2 := (Option.some.inj h).symm
    subst ev
    have hq : Q 2 := hq
    refine ⟨?_, by omega⟩
    simp [hq]
  | 1, h =>
    have ev : v = 2 := (Option.some.inj h).symm
    subst ev
    have hq : Q 2 := hq
    refine ⟨?_, by omega⟩
    simp [hq]
  | 2, h =>
    have ev : v = 0 := (Option.some.inj h).symm
    subst ev
    have hq : Q 0 := hq
    refine ⟨?_, by omega⟩
    simp [hq]
  | n + 3, h => cases h
theorem m_wn213 {M : e_M} {told v : Int} {k : Nat} {Q : Int → Prop} (hl : (k : Int) < told ∧ told ≤ 8) (h : (v_ws 213 told)[k]? = some v) (hq : Q (wm v)) : WX12_wanted 23 k told M Q ∧ ((0 ≤ v ∧ v ≤ 6) ∨ (10 ≤ v ∧ v ≤ 13)) := by
  unfold WX12_wanted VX12_wanted
  have e : v_ws 213 told = [0, 2] := rfl
  rw [e] at h
  match k, h with
  | 0, h =>
    have ev : v = 0 := (Option.some.inj h).symm
    subst ev
    have hq : Q 0 := hq
    refine ⟨?_, by omega⟩
    simp [hq]
  | 1, h =>
    have ev : v = 2 := (Option.some.inj h).symm
    subst ev
    have hq : Q 2 := hq
    refine ⟨?_, by omega⟩
    simp [hq]
  | n + 2, h => cases h
theorem m_wn214 {M : e_M} {told v : Int} {k : Nat} {Q : Int → Prop} (hl : (k : Int) < told ∧ told ≤ 8) (h : (v_ws 214 told)[k]? = some v) (hq : Q (wm v)) : WX12_wanted 24 k told M Q ∧ ((0 ≤ v ∧ v ≤ 6) ∨ (10 ≤ v ∧ v ≤ 13)) := by
  unfold WX12_wanted VX12_wanted
  have e : v_ws 214 told = [0, 2, 1] := rfl
  rw [e] at h
  match k, h with
  | 0, h =>
    have ev : v = 0 := (Option.some.inj h).symm
    subst ev
    have hq : Q 0 := hq
    refine ⟨?_, by omega⟩
    simp [hq]
  | 1, h =>
    have ev : v = 2 := (Option.some.inj h).symm
    subst ev
    have hq : Q 2 := hq
    refine ⟨?_, by omega⟩
    simp [hq]
  | 2, h =>
    have ev : v = 1 := (Option.some.inj h).symm
    subst ev
    have hq : Q 1 := hq
    refine ⟨?_, by omega⟩
    simp [hq]
  | n + 3, h => cases h
theorem m_wn215 {M : e_M} {told v : Int} {k : Nat} {Q : Int → Prop} (hl : (k : Int) < told ∧ told ≤ 8) (h : (v_ws 215 told)[k]? = some v) (hq : Q (wm v)) : WX12_wanted 25 k told M Q ∧ ((0 ≤ v ∧ v ≤ 6) ∨ (10 ≤ v ∧ v ≤ 13)) := by
  unfold WX12_wanted VX12_wanted
  have e : v_ws 215 told = [10, 0, 0] := rfl
  rw [e] at h
  match k, h with
  | 0, h =>
    have ev : v = 10 := (Option.some.inj h).symm
    subst ev
    have hq : Q 7 := hq
    refine ⟨?_, by omega⟩
    simp [hq]
  | 1, h =>
    have ev : v = 0 := (Option.some.inj h).symm
    subst ev
    have hq : Q 0 := hq
    refine ⟨?_, by omega⟩
    simp [hq]
  | 2, h =>
    have ev : v = 0 := (Option.some.inj h).symm
    subst ev
    have hq : Q 0 := hq
    refine ⟨?_, by omega⟩
    simp [hq]
  | n + 3, h => cases h
theorem m_wn216 {M : e_M} {told v : Int} {k : Nat} {Q : Int → Prop} (hl : (k : Int) < told ∧ told ≤ 8) (h : (v_ws 216 told)[k]? = some v) (hq : Q (wm v)) : WX12_wanted 29 k told M Q ∧ ((0 ≤ v ∧ v ≤ 6) ∨ (10 ≤ v ∧ v ≤ 13)) := by
  unfold WX12_wanted VX12_wanted
  have e : v_ws 216 told = [3] := rfl
  rw [e] at h
  match k, h with
  | 0, h =>
    have ev : v = 3 := (Option.some.inj h).symm
    subst ev
    have hq : Q 3 := hq
    refine ⟨?_, by omega⟩
    simp [hq]
  | n + 1, h => cases h
theorem m_wn217 {M : e_M} {told v : Int} {k : Nat} {Q : Int → Prop} (hl : (k : Int) < told ∧ told ≤ 8) (h : (v_ws 217 told)[k]? = some v) (hq : Q (wm v)) : WX12_wanted 30 k told M Q ∧ ((0 ≤ v ∧ v ≤ 6) ∨ (10 ≤ v ∧ v ≤ 13)) := by
  unfold WX12_wanted VX12_wanted
  have e : v_ws 217 told = [10, 0, 1] := rfl
  rw [e] at h
  match k, h with
  | 0, h =>
    have ev : v = 10 := (Option.some.inj h).symm
    subst ev
    have hq : Q 7 := hq
    refine ⟨?_, by omega⟩
    simp [hq]
  | 1, h =>
    have ev : v = 0 := (Option.some.inj h).symm
    subst ev
    have hq : Q 0 := hq
    refine ⟨?_, by omega⟩
    simp [hq]
  | 2, h =>
    have ev : v = 1 := (Option.some.inj h).symm
    subst ev
    have hq : Q 1 := hq
    refine ⟨?_, by omega⟩
    simp [hq]
  | n + 3, h => cases h
theorem m_wn218 {M : e_M} {told v : Int} {k : Nat} {Q : Int → Prop} (hl : (k : Int) < told ∧ told ≤ 8) (h : (v_ws 218 told)[k]? = some v) (hq : Q (wm v)) : WX12_wanted 32 k told M Q ∧ ((0 ≤ v ∧ v ≤ 6) ∨ (10 ≤ v ∧ v ≤ 13)) := by
  unfold WX12_wanted VX12_wanted
  have e : v_ws 218 told = [10, 0, 1] := rfl
  rw [e] at h
  match k, h with
  | 0, h =>
    have ev : v = 10 := (Option.some.inj h).symm
    subst ev
    have hq : Q 7 := hq
    refine ⟨?_, by omega⟩
    simp [hq]
  | 1, h =>
    have ev : v = 0 := (Option.some.inj h).symm
    subst ev
    have hq : Q 0 := hq
    refine ⟨?_, by omega⟩
    simp [hq]
  | 2, h =>
    have ev : v = 1 := (Option.some.inj h).symm
    subst ev
    have hq : Q 1 := hq
    refine ⟨?_, by omega⟩
    simp [hq]
  | n + 3, h => cases h
theorem m_wn219 {M : e_M} {told v : Int} {k : Nat} {Q : Int → Prop} (hl : (k : Int) < told ∧ told ≤ 8) (h : (v_ws 219 told)[k]? = some v) (hq : Q (wm v)) : WX12_wanted 33 k told M Q ∧ ((0 ≤ v ∧ v ≤ 6) ∨ (10 ≤ v ∧ v ≤ 13)) := by
  unfold WX12_wanted VX12_wanted
  have e : v_ws 219 told = [10, 0, 1] := rfl
  rw [e] at h
  match k, h with
  | 0, h =>
    have ev : v = 10 := (Option.some.inj h).symm
    subst ev
    have hq : Q 7 := hq
    refine ⟨?_, by omega⟩
    simp [hq]
  | 1, h =>
    have ev : v = 0 := (Option.some.inj h).symm
    subst ev
    have hq : Q 0 := hq
    refine ⟨?_, by omega⟩
    simp [hq]
  | 2, h =>
    have ev : v = 1 := (Option.some.inj h).symm
    subst ev
    have hq : Q 1 := hq
    refine ⟨?_, by omega⟩
    simp [hq]
  | n + 3, h => cases h
theorem m_wn220 {M : e_M} {told v : Int} {k : Nat} {Q : Int → Prop} (hl : (k : Int) < told ∧ told ≤ 8) (h : (v_ws 220 told)[k]? = some v) (hq : Q (wm v)) : WX12_wanted 34 k told M Q ∧ ((0 ≤ v ∧ v ≤ 6) ∨ (10 ≤ v ∧ v ≤ 13)) := by
  unfold WX12_wanted VX12_wanted
  have e : v_ws 220 told = [6] := rfl
  rw [e] at h
  match k, h with
  | 0, h =>
    have ev : v = 6 := (Option.some.inj h).symm
    subst ev
    have hq : Q 6 := hq
    refine ⟨?_, by omega⟩
    simp [hq]
  | n + 1, h => cases h
theorem m_wn221 {M : e_M} {told v : Int} {k : Nat} {Q : Int → Prop} (hl : (k : Int) < told ∧ told ≤ 8) (h : (v_ws 221 told)[k]? = some v) (hq : Q (wm v)) : WX12_wanted 35 k told M Q ∧ ((0 ≤ v ∧ v ≤ 6) ∨ (10 ≤ v ∧ v ≤ 13)) := by
  unfold WX12_wanted VX12_wanted
  have e : v_ws 221 told = [13] := rfl
  rw [e] at h
  match k, h with
  | 0, h =>
    have ev : v = 13 := (Option.some.inj h).symm
    subst ev
    have hq : Q 8 := hq
    refine ⟨?_, by omega⟩
    simp [hq]
  | n + 1, h => cases h
theorem m_wanted {M : e_M} {a told v : Int} {k : Nat} {Q : Int → Prop} (ha : 200 ≤ a ∧ a ≤ 221) (hl : (k : Int) < told ∧ told ≤ 8) (h : (v_ws a told)[k]? = some v) (hq : Q (wm v)) : WX12_wanted (m_ac a) k told M Q ∧ ((0 ≤ v ∧ v ≤ 6) ∨ (10 ≤ v ∧ v ≤ 13)) := by
  have hc : a = 200 ∨ a = 201 ∨ a = 202 ∨ a = 203 ∨ a = 204 ∨ a = 205 ∨ a = 206 ∨ a = 207 ∨ a = 208 ∨ a = 209 ∨ a = 210 ∨ a = 211 ∨ a = 212 ∨ a = 213 ∨ a = 214 ∨ a = 215 ∨ a = 216 ∨ a = 217 ∨ a = 218 ∨ a = 219 ∨ a = 220 ∨ a = 221 := by omega
  rcases hc with rfl | rfl | rfl | rfl | rfl | rfl | rfl | rfl | rfl | rfl | rfl | rfl | rfl | rfl | rfl | rfl | rfl | rfl | rfl | rfl | rfl | rfl
  · exact m_wn200 hl h hq
  · exact m_wn201 hl h hq
  · exact m_wn202 hl h hq
  · exact m_wn203 hl h hq
  · exact m_wn204 hl h hq
  · exact m_wn205 hl h hq
  · exact m_wn206 hl h hq
  · exact m_wn207 hl h hq
  · exact m_wn208 hl h hq
  · exact m_wn209 hl h hq
  · exact m_wn210 hl h hq
  · exact m_wn211 hl h hq
  · exact m_wn212 hl h hq
  · exact m_wn213 hl h hq
  · exact m_wn214 hl h hq
  · exact m_wn215 hl h hq
  · exact m_wn216 hl h hq
  · exact m_wn217 hl h hq
  · exact m_wn218 hl h hq
  · exact m_wn219 hl h hq
  · exact m_wn220 hl h hq
  · exact m_wn221 hl h hq
theorem R_all_same {M N : e_M} {V : Nat → v_D} {S : w_S} {a : Int} (h : R_all M V S a) (f : ∀ b, b ≠ 4520 → N b = M b) : R_all N V S a := by
  obtain ⟨hn, hc, hR, hz, hg, hd⟩ := h
  obtain ⟨u1, u2⟩ := n_same hn (M' := N) (fun b hb => f b (by omega)) (fun j _ => ⟨by rw [f 4480 (by omega)], by rw [f 4481 (by omega)]⟩) ⟨by rw [f 4456 (by omega)], by rw [f 4456 (by omega)], by rw [f 4456 (by omega)]⟩
  exact ⟨u1, ⟨fun k hk => by rw [f 4457 (by omega)]; exact hc.1 k hk, fun l m hl hm => by rw [f 4458 (by omega)]; exact hc.2 l m hl hm⟩, by rw [u2]; exact hR, hz, hg, hd⟩
theorem m_whatIs {M : e_M} {V : Nat → v_D} {S : w_S} {a nm : Int} {Q : Int → Prop} (h : R_all M V S a) (hq : ∀ r, ((r = -1 ∧ ∀ s i : Nat, s < 7 → (i : Int) < w_z S s → w_nm S s i ≠ nm) ∨ ∃ s i : Nat, s < 7 ∧ (i : Int) < w_z S s ∧ w_nm S s i = nm ∧ r = 80 * (s : Int) + i) → Q r) : WX12_whatIs nm M Q := by
  obtain ⟨hn, hc, hR, hz, hg, hd⟩ := h
  have zs : ∀ s, s < 7 → 0 ≤ S.1 s := fun s hs => (hz s (by omega)).1
  unfold WX12_whatIs VX12_whatIs
  refine s_up (σ := Unit) (P := fun dd i _ => WX12_whatIs_2 M Q dd nm i) (n := 7) (i0 := 0) (s := ()) (fun x _ => ∀ s i : Nat, (s : Int) < x → s < 7 → (i : Int) < w_z S s → w_nm S s i ≠ nm) (by omega) (fun s i hs => by omega) ?_ ?_
  · intro d2 _ hI
    unfold WX12_whatIs_2 VX12_whatIs_2
    exact ⟨fun _ => hq (-1) (Or.inl ⟨rfl, fun s i hs hi => hI s i (by omega) hs hi⟩), fun z => by omega⟩
  · intro d2 x _ x1 x2 hI ih
    obtain ⟨s, es⟩ : ∃ s : Nat, x = s := ⟨x.toNat, by omega⟩
    subst es
    have s7 : s < 7 := by omega
    have ts : ((s : Nat) : Int).toNat = s := by omega
    unfold WX12_whatIs_2 VX12_whatIs_2
    refine ⟨fun z => by omega, fun _ => ?_⟩
    show ∃ j, WX12_whatIs_11 M (WX12_whatIs_2 M Q d2) Q j nm s 0
    refine s_up (σ := Unit) (P := fun dd i _ => WX12_whatIs_11 M (WX12_whatIs_2 M Q d2) Q dd nm s i) (n := S.1 s) (i0 := 0) (s := ()) (fun y _ => ∀ i : Nat, (i : Int) < y → w_nm S s i ≠ nm) (zs s s7) (fun i hi => by omega) ?_ ?_
    · intro d3 _ hJ
      unfold WX12_whatIs_11 VX12_whatIs_11
      rw [ts, R_many hR s7]
      refine ⟨by omega, fun _ => ?_, fun z => by omega⟩
      rw [s_w (by omega) (by omega)]
      refine ih () (fun s' i hs' h7 hi => ?_)
      by_cases c : s' = s
      · rw [c] at hi ⊢; exact hJ i hi
      · exact hI s' i (by omega) h7 hi
    · intro d3 y _ y1 y2 hJ ih2
      obtain ⟨i, ei⟩ : ∃ i : Nat, y = i := ⟨y.toNat, by omega⟩
      subst ei
      have i80 := R_mx hz s7 y2
      have tt : (((80 * s + i : Nat)) : Int).toNat = 80 * s + i := by omega
      obtain ⟨c0, -⟩ := n_c (M := M) (t := 80 * s + i) (by omega)
      have en := R_nm hR s7 y2
      unfold WX12_whatIs_11 VX12_whatIs_11
      rw [ts, R_many hR s7]
      refine ⟨by omega, fun z => by omega, fun _ => m_idt (t := 80 * s + i) (by omega) (by omega) (by omega) ?_⟩
      rw [tt, c0, en]
      refine ⟨by omega, fun ne => ?_, fun e => m_idt (t := 80 * s + i) (by omega) (by omega) (by omega) (hq _ (Or.inr ⟨s, i, s7, y2, e, by omega⟩))⟩
      rw [s_w (by omega) (by omega)]
      refine ih2 () (fun i' hi' => ?_)
      by_cases c : i' = i
      · rw [c]; exact ne
      · exact hJ i' (by omega)
/-- what the model looks for: no more than the sort -/
theorem n_fit_wk {S : w_S} {v : Int} {s i : Nat} (h : n_fit S v s i = true) : n_fit S (wk v) s i = true := by
  by_cases c : v = 11 ∨ v = 12
  · have e : wk v = 1 := if_pos c
    rw [e]
    unfold n_fit at *
    rw [Bool.and_eq_true] at *
    refine ⟨h.1, ?_⟩
    rw [if_neg (by omega), if_neg (by omega), if_neg (by omega)]
    have h2 := h.2
    rcases c with c | c
    · rw [if_pos c, Bool.and_eq_true] at h2
      have := of_decide_eq_true h2.1
      exact decide_eq_true (by omega)
    · rw [if_neg (by omega), if_pos c, Bool.and_eq_true] at h2
      have := of_decide_eq_true h2.1
      exact decide_eq_true (by omega)
  · rw [show wk v = v from if_neg c]; exact h
theorem m_areNamed {M : e_M} {V : Nat → v_D} {S : w_S} {a ac told : Int} {x : Nat} {nm wt : Nat → Int} {Q : Int → e_M → Prop} (h : R_all M V S a) (hun : w_un S) (hx : x < 152) (ha : 200 ≤ ac ∧ ac ≤ 221) (e1 : M 4461 x = m_ac ac) (e3 : M 4463 x = told) (ht : 0 ≤ told ∧ told ≤ 8) (e7 : ∀ k : Nat, (k : Int) < told → M 4467 (10 * x + k) = nm k) (hw : ∀ k : Nat, (k : Int) < told → (v_ws ac told)[k]? = some (wt k))
    (q1 : ∀ R M', n_ok S nm (fun k => wk (wt k)) told R → (∀ k : Nat, (k : Int) < told → wt k ≠ 10 → M' 4520 k = if wt k = 13 then 80 * ((R k).1 : Int) + (R k).2 else (R k).2) → (∀ b, b ≠ 4520 → M' b = M b) → Q 1 M')
    (q0 : (∀ R, ¬ n_ok S nm (fun k => wk (wt k)) told R) → ∀ M', (∀ b, b ≠ 4520 → M' b = M b) → Q 0 M') : WX12_areNamed x M Q := by
  have tx : ((x : Nat) : Int).toNat = x := by omega
  unfold WX12_areNamed VX12_areNamed
  refine s_up (σ := e_M) (P := fun dd i N => WX12_areNamed_2 Q dd x i N) (n := told) (i0 := 0) (s := M) (fun i N => (∀ b, b ≠ 4520 → N b = M b) ∧ ∃ R : Nat → Nat × Nat, (∀ k : Nat, (k : Int) < i → n_at S nm (fun k => wk (wt k)) R k) ∧ ∀ k : Nat, (k : Int) < i → wt k ≠ 10 → N 4520 k = if wt k = 13 then 80 * ((R k).1 : Int) + (R k).2 else (R k).2) ht.1 ⟨fun _ _ => rfl, fun _ => (0, 0), fun k hk => by omega, fun k hk => by omega⟩ ?_ ?_
  · intro d2 N ⟨f, R, r1, r2⟩
    unfold WX12_areNamed_2 VX12_areNamed_2
    rw [tx, f 4463 (by omega), e3]
    exact ⟨by omega, fun _ => q1 R N r1 r2 f, fun z => by omega⟩
  · intro d2 i N i1 i2 ⟨f, R, r1, r2⟩ ih
    obtain ⟨k, ek⟩ : ∃ k : Nat, i = k := ⟨i.toNat, by omega⟩
    subst ek
    have tk : ((k : Nat) : Int).toNat = k := by omega
    have hN := R_all_same h f
    obtain ⟨hn, hc, hR, hz, hg, hd⟩ := id hN
    have ew := hw k i2
    have bad : (∀ r : Nat → Nat × Nat, ¬ n_at S nm (fun k => wk (wt k)) r k) → ∀ N', (∀ b, b ≠ 4520 → N' b = M b) → Q 0 N' := fun hb N' f' => q0 (fun r hr => hb r (hr k i2)) N' f'
    -- one NAME more is found
    have k183 : ∀ N' (y : Nat × Nat), (∀ b, b ≠ 4520 → N' b = M b) → (∀ j : Nat, (j : Int) < (k : Int) → N' 4520 j = N 4520 j) → n_at S nm (fun k => wk (wt k)) (fun j => if j = k then y else R j) k → (wt k ≠ 10 → N' 4520 k = if wt k = 13 then 80 * ((y.1 : Nat) : Int) + (y.2 : Nat) else (y.2 : Nat)) → WX12_areNamed_183 (WX12_areNamed_2 Q d2) Q x k N' := fun N' y f' g' h1 h2 => by
      unfold WX12_areNamed_183 VX12_areNamed_183
      rw [s_w (by omega) (by omega)]
      refine ih N' ⟨f', fun j => if j = k then y else R j, fun j hj => ?_, fun j hj h10 => ?_⟩
      · by_cases c : j = k
        · rw [c]; exact h1
        · exact n_at_congr (R := R) (if_neg c) (r1 j (by omega))
      · by_cases c : j = k
        · rw [c] at h10 ⊢
          have e : (fun j => if j = k then y else R j) k = y := if_pos rfl
          rw [e]; exact h2 h10
        · have e : (fun j => if j = k then y else R j) j = R j := if_neg c
          rw [e, g' j (by omega)]; exact r2 j (by omega) h10
    unfold WX12_areNamed_2 VX12_areNamed_2
    rw [tx, f 4463 (by omega), e3, f 4461 (by omega), e1, s_w (x := 10 * (x : Int)) (by omega) (by omega), s_w (x := 10 * (x : Int) + k) (by omega) (by omega), show (10 * (x : Int) + (k : Int)).toNat = 10 * x + k by omega, f 4467 (by omega), e7 k i2]
    refine ⟨by omega, fun z => by omega, fun _ => ⟨by omega, fun y1 f1 => ?_⟩⟩
    subst f1
    refine m_whatIs hN (fun r2' hr => ⟨by omega, by omega, ?_⟩)
    have range := (m_wanted (M := N) (Q := fun _ => True) ha ⟨i2, ht.2⟩ ew trivial).2
    refine (m_wanted (M := N) ha ⟨i2, ht.2⟩ ew ?_).1
    by_cases c10 : wt k = 10
    · have em : wm (wt k) = 7 := if_pos c10
      rw [em]
      refine ⟨fun z => absurd rfl z, fun _ => ⟨fun lt => ?_, fun ge => bad (fun r hr2 => ?_) N f⟩⟩
      · rcases hr with ⟨-, hno⟩ | ⟨s, i, s7, hi, hnm, er⟩
        · show ∃ j, WX12_areNamed_66 (WX12_areNamed_2 Q d2) Q j x k (nm k) 0 N
          refine s_up (σ := Unit) (P := fun dd i _ => WX12_areNamed_66 (WX12_areNamed_2 Q d2) Q dd x k (nm k) i N) (n := (k : Int)) (i0 := 0) (s := ()) (fun i _ => ∀ j : Nat, (j : Int) < i → nm j ≠ nm k) (by omega) (fun j hj => by omega) ?_ ?_
          · intro d3 _ hJ
            unfold WX12_areNamed_66 VX12_areNamed_66
            refine ⟨fun _ => k183 N (0, 0) f (fun _ _ => rfl) ?_ (fun z => absurd c10 z), fun z => by omega⟩
            unfold n_at
            have e10 : wk (wt k) = 10 := by rw [c10]; rfl
            rw [if_pos e10]
            exact ⟨hno, fun j hj => hJ j (by omega)⟩
          · intro d3 y _ y1 y2 hJ ih3
            obtain ⟨j, ej⟩ : ∃ j : Nat, y = j := ⟨y.toNat, by omega⟩
            subst ej
            unfold WX12_areNamed_66 VX12_areNamed_66
            rw [s_w (x := 10 * (x : Int)) (by omega) (by omega), s_w (x := 10 * (x : Int) + j) (by omega) (by omega), show (10 * (x : Int) + (j : Int)).toNat = 10 * x + j by omega, f 4467 (by omega), e7 j (by omega)]
            refine ⟨fun z => by omega, fun _ => ⟨by omega, fun ne => ?_, fun e => bad (fun r hr => ?_) N f⟩⟩
            · rw [s_w (by omega) (by omega)]
              refine ih3 () (fun j' hj' => ?_)
              by_cases c : j' = j
              · rw [c]; exact ne
              · exact hJ j' (by omega)
            · unfold n_at at hr
              have e10 : wk (wt k) = 10 := by rw [c10]; rfl
              rw [if_pos e10] at hr
              exact hr.2 j (by omega) e
        · omega
      · unfold n_at at hr2
        have e10 : wk (wt k) = 10 := by rw [c10]; rfl
        rw [if_pos e10] at hr2
        rcases hr with ⟨e, -⟩ | ⟨s, i, s7, hi, hnm, er⟩
        · omega
        · exact hr2.1 s i s7 hi hnm
    · have nk10 : ¬ wk (wt k) = 10 := by unfold wk; split <;> omega
      have c7 : ¬ wm (wt k) = 7 := by unfold wm wk; rw [if_neg c10]; split <;> (try split) <;> omega
      refine ⟨fun _ => ⟨fun ge => ?_, fun lt => bad (fun r hr2 => ?_) N f⟩, fun z => absurd z c7⟩
      · rcases hr with ⟨e, -⟩ | ⟨s, i, s7, hi, hnm, er⟩
        · omega
        have i80 := R_mx hz s7 hi
        have ed : e_w32 (r2'.tdiv 80) = (s : Int) := by
          rw [Int.tdiv_eq_ediv_of_nonneg ge, er, show (80 * (s : Int) + (i : Int)) / 80 = (s : Int) by omega, s_w (by omega) (by omega)]
        have emd : r2'.tmod 80 = (i : Int) := by
          rw [Int.tmod_eq_emod_of_nonneg ge, er]; omega
        rw [ed, emd]
        have rt := R_thr hR (by omega) s7 hi
        have bad2 : n_fit S (wk (wt k)) s i = false → Q 0 N := fun hf => bad (fun r hr2 => by
          unfold n_at at hr2
          rw [if_neg nk10] at hr2
          obtain ⟨x1, x2⟩ := hun _ _ _ _ hr2.1.1 s7 hr2.1.2 hi (hr2.2.1.trans hnm.symm)
          have := hr2.2.2
          rw [x1, x2, hf] at this
          cases this) N f
        have good : n_fit S (wk (wt k)) s i = true → ∀ v, v = (if wt k = 13 then 80 * (s : Int) + i else (i : Int)) → WX12_areNamed_182 (WX12_areNamed_2 Q d2) Q x k v k N := fun hf v ev => by
          unfold WX12_areNamed_182 VX12_areNamed_182
          refine ⟨by omega, fun M1 g1 => ?_⟩
          rw [tk] at g1
          refine k183 M1 (s, i) (fun b hb => by rw [g1, e_up_row hb]; exact f b hb) (fun j hj => by rw [g1, e_up_ne (fun z => by have := z.2; omega)]) ?_ (fun _ => by rw [g1, e_up_eq]; exact ev)
          unfold n_at
          have e : (fun j => if j = k then (s, i) else R j) k = (s, i) := if_pos rfl
          rw [if_neg nk10, e]
          exact ⟨⟨s7, hi⟩, hnm, hf⟩
        have k146 : (w_thr S s i = true → n_fit S (wk (wt k)) s i = true) → WX12_areNamed_146 (WX12_areNamed_2 Q d2) Q x k r2' (wm (wt k)) s i N := fun hfit => by
          unfold WX12_areNamed_146 VX12_areNamed_146
          rw [R_day hR]
          refine m_isThere s7 i80 (fun t => ⟨fun _ => ⟨fun n8 => good (hfit (by rw [← rt]; exact t)) i ?_, fun e8 => good (hfit (by rw [← rt]; exact t)) r2' ?_⟩, fun z => by omega⟩) (fun t => ⟨fun z => absurd rfl z, fun _ => bad2 ?_⟩)
          · rw [if_neg (fun c => n8 (by unfold wm; rw [if_neg c10, if_pos c]))]
          · have c13 : wt k = 13 := Classical.byContradiction (fun c => by
              revert e8
              unfold wm wk
              rw [if_neg c10, if_neg c]
              split <;> omega)
            rw [if_pos c13]; exact er
          · unfold n_fit
            rw [← rt, t]; rfl
        refine ⟨by omega, by omega, fun n8 => ⟨fun es => k146 (fun t => ?_), fun ne => bad2 ?_⟩, fun e8 => ⟨fun ge4 => k146 (fun t => ?_), fun lt4 => bad2 ?_⟩⟩
        · have c13 : wt k ≠ 13 := fun c => n8 (by unfold wm; rw [if_neg c10, if_pos c])
          have em : wm (wt k) = wk (wt k) := by unfold wm; rw [if_neg c10, if_neg c13]
          rw [em] at es
          unfold n_fit
          have : ¬ wk (wt k) = 11 ∧ ¬ wk (wt k) = 12 ∧ ¬ wk (wt k) = 13 := by omega
          rw [t, if_neg this.1, if_neg this.2.1, if_neg this.2.2, decide_eq_true es]; rfl
        · have c13 : wt k ≠ 13 := fun c => n8 (by unfold wm; rw [if_neg c10, if_pos c])
          have em : wm (wt k) = wk (wt k) := by unfold wm; rw [if_neg c10, if_neg c13]
          rw [em] at ne
          cases hf : n_fit S (wk (wt k)) s i with
          | false => rfl
          | true =>
            have hs := n_fit_s hf
            have hk : (0 ≤ wk (wt k) ∧ wk (wt k) ≤ 6) := by unfold wk; split <;> omega
            exact absurd (hs.1 hk) ne
        · have c13 : wt k = 13 := Classical.byContradiction (fun c => by
            revert e8
            unfold wm wk
            rw [if_neg c10, if_neg c]
            split <;> omega)
          have ek : wk (wt k) = 13 := by rw [c13]; rfl
          unfold n_fit
          rw [t, ek, if_neg (by omega), if_neg (by omega), if_pos rfl, decide_eq_true (show s = 4 ∨ s = 5 ∨ s = 6 by omega)]; rfl
        · have c13 : wt k = 13 := Classical.byContradiction (fun c => by
            revert e8
            unfold wm wk
            rw [if_neg c10, if_neg c]
            split <;> omega)
          have ek : wk (wt k) = 13 := by rw [c13]; rfl
          unfold n_fit
          rw [ek, if_neg (by omega), if_neg (by omega), if_pos rfl, decide_eq_false (show ¬ (s = 4 ∨ s = 5 ∨ s = 6) by omega), Bool.and_false]
      · unfold n_at at hr2
        rw [if_neg nk10] at hr2
        rcases hr with ⟨e, hno⟩ | ⟨s, i, s7, hi, hnm, er⟩
        · exact hno _ _ hr2.1.1 hr2.1.2 hr2.2.1
        · omega
