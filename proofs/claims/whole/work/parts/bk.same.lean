/-! ACTS over two Worlds with the same in them: take, auction -/
theorem E_sok {p q : Nat} {o o' s s' : w_T} {day : Int} (ho : t_eq p o o') (hs : t_eq q s s') : t_sok o s day ↔ t_sok o' s' day := by
  unfold t_sok
  rw [t_eq_s ho (k := 1) (by omega), t_eq_s ho (k := 5) (by omega), ho.2, t_eq_s hs (k := 1) (by omega), t_eq_s hs (k := 4) (by omega), t_eq_s hs (k := 5) (by omega), t_eq_s hs (k := 8) (by omega), hs.2]
theorem E_lat {S S' : w_S} {q : Nat} {o o' : w_T} {day r : Int} (h : E_S S S') (ho : t_eq q o o') : w_lat S o day r ↔ w_lat S' o' day r := by
  have one : ∀ {S S' : w_S} {o o' : w_T}, E_S S S' → t_eq q o o' → w_lat S o day r → w_lat S' o' day r := fun {S S' o o'} h ho hl => by
    have z7 : w_z S' 7 = w_z S 7 := (h.1 7 (by omega)).symm
    rcases hl with ⟨e, n⟩ | ⟨k, e, k1, k2, k3⟩
    · refine Or.inl ⟨e, fun k hk z => ?_⟩
      rw [z7] at hk
      exact n k hk ((E_sok ho (E_th h (s := 7) (by omega) hk)).mpr z)
    · refine Or.inr ⟨k, e, by rw [z7]; exact k1, (E_sok ho (E_th h (s := 7) (by omega) k1)).mp k2, fun j j1 j2 z => ?_⟩
      rw [z7] at j2
      exact k3 j j1 j2 ((E_sok ho (E_th h (s := 7) (by omega) j2)).mpr z)
  have hs : t_eq q o' o := ⟨fun k k1 k2 k3 k4 => (ho.1 k k1 k2 k3 k4).symm, ho.2.symm⟩
  exact ⟨one h ho, one (E_symm h) hs⟩
theorem E_take {V : Nat → v_D} {S S' : w_S} {r : Nat → Int} {d : Nat} (h : E_S S S') (hz : R_z S) (hg : w_rg S) (h0 : 0 ≤ r 0 ∧ r 0 < S.1 6) (hsl : ∀ k : Nat, (k : Int) < S.1 7 → 0 ≤ r_get (w_t S 7 k).2.1 0 ∧ r_get (w_t S 7 k).2.1 0 < S.1 0) : E_O (X_take V S r d) (X_take V S' r d) := by
  have hi : ((r 0).toNat : Int) < S.1 6 := by omega
  have eo := E_th h (s := 6) (by omega) hi
  have hrt := (hg.2 6 (r 0).toNat (by omega) (by omega) hi).1
  have hwho : 0 ≤ (w_t S 6 (r 0).toNat).1 5 ∧ (w_t S 6 (r 0).toNat).1 5 < S.1 1 := ⟨hrt.2 (by omega) (by omega), hrt.1⟩
  have hww := (hg.2 1 ((w_t S 6 (r 0).toNat).1 5).toNat (by omega) (by omega) (by show ((((w_t S 6 (r 0).toNat).1 5).toNat : Nat) : Int) < S.1 1; omega)).1.1
  have e5 := t_eq_s eo (k := 5) (by omega)
  unfold X_take
  rw [← e5]
  have el : ∀ v : Int, w_lat S (w_t S 6 (r 0).toNat) ((V d).1 4) v ↔ w_lat S' (w_t S' 6 (r 0).toNat) ((V d).1 4) v := fun v => E_lat h eo
  have ef : (fun k : Nat => w_lat S' (w_t S' 6 (r 0).toNat) ((V d).1 4) k) = (fun k : Nat => w_lat S (w_t S 6 (r 0).toNat) ((V d).1 4) k) := funext (fun k => propext (el k).symm)
  rw [ef]
  refine E_if (by rw [E_abl h (by omega) hww]) (E_mk h) (fun _ => E_if (el (-1)) (E_mk h) (fun c => ?_))
  have ex : ∃ k : Nat, w_lat S (w_t S 6 (r 0).toNat) ((V d).1 4) k := by
    rcases w_lat_ex (S := S) (o := w_t S 6 (r 0).toNat) (day := (V d).1 4) with z | z
    · exact absurd z c
    · exact z
  have sp := Classical.epsilon_spec ex
  generalize Classical.epsilon (fun k : Nat => w_lat S (w_t S 6 (r 0).toNat) ((V d).1 4) k) = k at *
  have hk : (k : Int) < S.1 7 := by
    rcases sp with ⟨e1, _⟩ | ⟨k', e1, e2, _⟩
    · omega
    · rw [e1]; exact e2
  have es := E_th h (s := 7) (by omega) hk
  have hl := hsl k hk
  have hli : ((r_get (w_t S 7 k).2.1 0).toNat : Int) < S.1 0 := by omega
  have e2 := es.2
  have t1 : X_tko V S' (w_t S' 7 k) ↔ X_tko V S (w_t S 7 k) := by
    unfold X_tko
    rw [← e2, ← t_eq_s es (k := 12) (by omega), ← t_eq_s es (k := 13) (by omega), ← t_eq_s es (k := 11) (by omega), E_lot h hli]
  have t2 : X_tfin V S' (w_t S' 6 (r 0).toNat) (w_t S' 7 k) = X_tfin V S (w_t S 6 (r 0).toNat) (w_t S 7 k) := by
    unfold X_tfin
    rw [← e2, ← t_eq_s es (k := 12) (by omega), ← t_eq_s es (k := 13) (by omega), ← t_eq_s es (k := 11) (by omega), ← e5, E_lot h hli]
  unfold X_take2
  rw [t2, ← e2]
  generalize X_tfin V S (w_t S 6 (r 0).toNat) (w_t S 7 k) = fin
  have e1 : E_S (w_ows S (r_get (w_t S 7 k).2.1 0).toNat fin) (w_ows S' (r_get (w_t S 7 k).2.1 0).toNat fin) := E_ows h hli
  have hz1 : R_z (w_ows S (r_get (w_t S 7 k).2.1 0).toNat fin) := fun s hs => hz s hs
  have ep := E_put (k := 8) (v := 1) e1 hz1 (s := 7) (i := k) (by omega) hk
  exact E_if (by rw [t1]) (E_mk h) (fun _ => E_if Iff.rfl (E_mk h) (fun _ => E_if Iff.rfl (E_mk h) (fun _ => E_mk ep)))
theorem t_eq_leave {s : Nat} {t t' : w_T} {l : Int} (h : t_eq s t t') : t_eq s (t_leave t l) (t_leave t' l) := by
  have e2 := h.2
  unfold t_leave
  rw [← e2]
  split
  · exact t_eq_fu (t_eq_rows h)
  · exact t_eq_rows h
theorem t_eq_clr {l made day : Int} {s : Nat} {t t' : w_T} (h : t_eq s t t') : t_eq s (t_clr l made day s t) (t_clr l made day s t') := by
  unfold t_clr
  rw [← t_eq_thr h, ← t_eq_s h (k := 1) (by omega), ← h.2]
  split
  · exact t_eq_leave h
  · exact h
theorem w_endc_row {S : w_S} {c : Nat} : (w_t (w_endc S c) 2 c).2.1 = [] := by
  unfold w_endc
  generalize w_dels S c (S.2.2.1 (w_F 2 + c)).2.1 = D
  unfold w_put w_lts w_setT w_t
  simp only [s_fu_eq]
theorem E_auc {l f : Nat} : ∀ (k : Nat) {S S' : w_S} {left : Int}, E_S S S' → R_z S → (l : Int) < S.1 0 → (∀ c ∈ (w_l S l).2.2.1, 0 ≤ c ∧ c < S.1 2) → (∀ c : Nat, (c : Int) < S.1 2 → ∀ x ∈ (w_t S 2 c).2.1, (x.toNat : Int) < S.1 0) → E_S (w_auc l f k S left) (w_auc l f k S' left) := by
  intro k
  induction k with
  | zero => exact fun h _ _ _ _ => h
  | succ k ih =>
    intro S S' left h hz hl hr hx
    have el := h.2.1 l hl
    by_cases c : (S.2.1 l).2.2.1.length ≤ f
    · rw [w_auc_stop c, w_auc_stop (by rw [← el]; exact c)]; exact h
    · have hg := List.getElem?_eq_getElem (l := (S.2.1 l).2.2.1) (i := f) (by omega)
      generalize (S.2.1 l).2.2.1[f] = cc at hg
      have hm := hr cc (List.mem_of_getElem? hg)
      rw [w_auc_go (by omega) hg, w_auc_go (by rw [← el]; omega) (by rw [← el]; exact hg)]
      have hci : (cc.toNat : Int) < S.1 2 := by omega
      have e6 := t_eq_s (E_th h (s := 2) (by omega) hci) (k := 6) (by omega)
      rw [← e6]
      have e1 := E_put (k := 6) (v := (w_t S 2 cc.toNat).1 6 - e_min left ((w_t S 2 cc.toNat).1 6)) h hz (s := 2) (by omega) hci
      generalize hY : w_put S (w_F 2 + cc.toNat) 6 ((w_t S 2 cc.toNat).1 6 - e_min left ((w_t S 2 cc.toNat).1 6)) = Y at *
      generalize w_put S' (w_F 2 + cc.toNat) 6 ((w_t S 2 cc.toNat).1 6 - e_min left ((w_t S 2 cc.toNat).1 6)) = Y' at *
      have yz : Y.1 = S.1 := by rw [← hY]; rfl
      have yl : ∀ i, w_l Y i = w_l S i := fun i => by rw [← hY]; rfl
      have yt : ∀ c, (w_t Y 2 c).2.1 = (w_t S 2 c).2.1 := fun c => by
        rw [← hY]
        show (s_fu S.2.2.1 (w_F 2 + cc.toNat) (s_fu (S.2.2.1 (w_F 2 + cc.toNat)).1 6 _, (S.2.2.1 (w_F 2 + cc.toNat)).2) (w_F 2 + c)).2.1 = _
        unfold s_fu
        split
        · next e => rw [← e]; rfl
        · rfl
      have hzY : R_z Y := fun s hs => by rw [yz]; exact hz s hs
      have e2 := E_free (l := l) (c := cc.toNat) e1 hzY (by rw [yz]; exact hl) (by rw [yz]; exact hci)
      have hzF : R_z (w_free Y l cc.toNat) := fun s hs => by rw [w_free_z]; exact hzY s hs
      have frow : ∀ c : Nat, ∀ x ∈ (w_t (w_free Y l cc.toNat) 2 c).2.1, x ∈ (w_t S 2 c).2.1 := fun c x hx' => by
        rw [w_free_t] at hx'
        split at hx'
        · next e =>
          rw [e, ← yt]
          exact r_del_sub hx'
        · rw [← yt]; exact hx'
      have flot : ∀ c ∈ (w_l (w_free Y l cc.toNat) l).2.2.1, c ∈ (w_l S l).2.2.1 := fun c hc => by
        rw [w_free_l, if_pos rfl] at hc
        rw [← yl]
        exact r_del_sub hc
      split
      · have e3 := E_endc e2 hzF (c := cc.toNat) (by rw [w_free_z, yz]; exact hci) (fun x hx' => by rw [w_free_z, yz]; exact hx _ hci x (frow _ x hx'))
        refine ih e3 (fun s hs => by rw [w_endc_z]; exact hzF s hs) (by rw [w_endc_z, w_free_z, yz]; exact hl) (fun c hc => ?_) (fun c hc x hx' => ?_)
        · rw [w_endc_z, w_free_z, yz]
          exact hr c (flot c (w_dels_sub (c := (cc.toNat : Int)) (ls := ((w_free Y l cc.toNat).2.2.1 (w_F 2 + cc.toNat)).2.1) (S := w_free Y l cc.toNat) (k := l) hc))
        · rw [w_endc_z, w_free_z, yz] at hc ⊢
          refine hx c hc x (frow c x ?_)
          by_cases ce : c = cc.toNat
          · subst ce
            have : (w_t (w_endc (w_free Y l cc.toNat) cc.toNat) 2 cc.toNat).2.1 = [] := w_endc_row
            rw [this] at hx'; cases hx'
          · have : w_t (w_endc (w_free Y l cc.toNat) cc.toNat) 2 c = w_t (w_free Y l cc.toNat) 2 c := by
              unfold w_endc w_put w_lts
              rw [w_setT_setT]
              show s_fu _ _ _ (w_F 2 + c) = _
              rw [s_fu_ne (by omega)]
              show (w_dels _ _ _).2.2.1 _ = _
              rw [(w_dels_t).1]; rfl
            rw [this] at hx'; exact hx'
      · refine ih e2 hzF (by rw [w_free_z, yz]; exact hl) (fun c hc => ?_) (fun c hc x hx' => ?_)
        · rw [w_free_z, yz]; exact hr c (flot c hc)
        · rw [w_free_z, yz] at hc ⊢
          exact hx c hc x (frow c x hx')
