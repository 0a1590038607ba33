/-! an ACT leaves the DAY as it is -/
def dP (day : Int) (X : Int × w_S) : Prop := X.2.2.2.2 = day
theorem dP_if {P : Prop} {a b : Int × w_S} {day : Int} (ha : dP day a) (hb : dP day b) : dP day (c_if P a b) := by
  by_cases c : P
  · rw [c_if_pos c]; exact ha
  · rw [c_if_neg c]; exact hb
theorem dP_ite {P : Prop} {x : Decidable P} {a b : Int × w_S} {day : Int} (ha : dP day a) (hb : dP day b) : dP day (if P then a else b) := by
  by_cases c : P
  · rw [if_pos c]; exact ha
  · rw [if_neg c]; exact hb
theorem dP_mk {c day : Int} {S : w_S} (h : S.2.2.2 = day) : dP day (c, S) := h
theorem w_charge_d {called d at_ who num : Int} {S : w_S} {ls : List Int} : (w_charge S called d at_ who num ls).2.2.2 = S.2.2.2 := by
  have key : ∀ (ls : List Int) (Y : w_S), (ls.foldl (w_chst (w_F 2 + (S.1 2).toNat) (S.1 2)) Y).2.2.2 = Y.2.2.2 := by
    intro ls
    induction ls with
    | nil => exact fun _ => rfl
    | cons x ls ih => exact fun Y => ih _
  exact key ls _
theorem w_auction_d {S : w_S} {l f : Nat} {p num made : Int} : (w_auction S l f p num made).2.2.2 = S.2.2.2 := (w_auc_s1 8 (w_lpt (w_ows S l [(p, 1, 1)]) l 2 num) (w_lpt (w_ows S l [(p, 1, 1)]) l 2 num) num (fun _ => rfl)).2.2
theorem dP_X_person (V : Nat → v_D) (S : w_S) (d : Nat) (at_ : Int) {day : Int} (h : S.2.2.2 = day) : dP day (X_person V S d at_) := by
  unfold X_person
  repeat (first | refine dP_if ?_ ?_ | exact dP_mk h)
theorem dP_X_firm (V : Nat → v_D) (S : w_S) (r : Nat → Int) (d : Nat) (at_ : Int) {day : Int} (h : S.2.2.2 = day) : dP day (X_firm V S r d at_) := by
  unfold X_firm
  repeat (first | refine dP_if ?_ ?_ | exact dP_mk h)
theorem dP_X_guard (S : w_S) (r : Nat → Int) {day : Int} (h : S.2.2.2 = day) : dP day (X_guard S r) := by
  unfold X_guard
  repeat (first | refine dP_if ?_ ?_ | exact dP_mk h)
theorem dP_X_die (V : Nat → v_D) (S : w_S) (r : Nat → Int) (d : Nat) {day : Int} (h : S.2.2.2 = day) : dP day (X_die V S r d) := by
  unfold X_die
  repeat (first | refine dP_if ?_ ?_ | exact dP_mk h)
theorem dP_X_close (S : w_S) (r : Nat → Int) {day : Int} (h : S.2.2.2 = day) : dP day (X_close S r) := by
  unfold X_close
  repeat (first | refine dP_if ?_ ?_ | exact dP_mk h)
theorem dP_X_sell (V : Nat → v_D) (S : w_S) (r : Nat → Int) (d : Nat) (at_ : Int) {day : Int} (h : S.2.2.2 = day) : dP day (X_sell V S r d at_) := by
  unfold X_sell
  repeat (first | refine dP_if ?_ ?_ | exact dP_mk h)
theorem dP_X_split (V : Nat → v_D) (S : w_S) (r : Nat → Int) (d : Nat) {day : Int} (h : S.2.2.2 = day) : dP day (X_split V S r d) := by
  unfold X_split
  repeat (first | refine dP_if ?_ ?_ | exact dP_mk h)
theorem dP_X_join2 (V : Nat → v_D) (S : w_S) (r : Nat → Int) (d : Nat) (R : s_Fig) {day : Int} (h : S.2.2.2 = day) : dP day (X_join2 V S r d R) := by
  unfold X_join2
  repeat (first | refine dP_if ?_ ?_ | exact dP_mk h)
theorem dP_X_join1 (V : Nat → v_D) (S : w_S) (r : Nat → Int) (d : Nat) (o : Option s_Fig) {day : Int} (h : S.2.2.2 = day) : dP day (X_join1 V S r d o) := by
  cases o with
  | none => exact dP_mk h
  | some R => exact dP_X_join2 _ _ _ _ _ h
theorem dP_X_join (V : Nat → v_D) (S : w_S) (r : Nat → Int) (d : Nat) {day : Int} (h : S.2.2.2 = day) : dP day (X_join V S r d) := by
  unfold X_join
  repeat (first | exact dP_X_join1 _ _ _ _ _ h | exact dP_mk h | refine dP_if ?_ ?_)
theorem dP_X_border2 (V : Nat → v_D) (S : w_S) (r : Nat → Int) (d : Nat) (R : s_Fig) {day : Int} (h : S.2.2.2 = day) : dP day (X_border2 V S r d R) := by
  unfold X_border2
  repeat (first | refine dP_if ?_ ?_ | exact dP_mk h)
theorem dP_X_border1 (V : Nat → v_D) (S : w_S) (r : Nat → Int) (d : Nat) (o : Option s_Fig) {day : Int} (h : S.2.2.2 = day) : dP day (X_border1 V S r d o) := by
  cases o with
  | none => exact dP_mk h
  | some R => exact dP_X_border2 _ _ _ _ _ h
theorem dP_X_border (V : Nat → v_D) (S : w_S) (r : Nat → Int) (d : Nat) {day : Int} (h : S.2.2.2 = day) : dP day (X_border V S r d) := by
  unfold X_border
  repeat (first | exact dP_X_border1 _ _ _ _ _ h | exact dP_mk h | refine dP_if ?_ ?_)
theorem dP_X_charge (V : Nat → v_D) (S : w_S) (r : Nat → Int) (d : Nat) (at_ : Int) {day : Int} (h : S.2.2.2 = day) : dP day (X_charge V S r d at_) := by
  unfold X_charge
  repeat (first | refine dP_if ?_ ?_ | exact dP_mk h | exact dP_mk (w_charge_d.trans h))
theorem dP_X_pay (V : Nat → v_D) (S : w_S) (r : Nat → Int) (d : Nat) {day : Int} (h : S.2.2.2 = day) : dP day (X_pay V S r d) := by
  unfold X_pay
  repeat (first | refine dP_if ?_ ?_ | exact dP_mk h | exact dP_mk (w_endc_d.trans h))
theorem dP_X_assign (S : w_S) (r : Nat → Int) {day : Int} (h : S.2.2.2 = day) : dP day (X_assign S r) := by
  unfold X_assign
  repeat (first | refine dP_if ?_ ?_ | exact dP_mk h)
theorem dP_X_rank (S : w_S) (r : Nat → Int) {day : Int} (h : S.2.2.2 = day) : dP day (X_rank S r) := by
  unfold X_rank
  repeat (first | refine dP_if ?_ ?_ | exact dP_mk h)
theorem dP_X_free (S : w_S) (r : Nat → Int) {day : Int} (h : S.2.2.2 = day) : dP day (X_free S r) := by
  unfold X_free
  repeat (first | refine dP_if ?_ ?_ | exact dP_mk h | exact dP_mk (w_free_d.trans h))
theorem dP_X_auction (V : Nat → v_D) (S : w_S) (r : Nat → Int) (d : Nat) {day : Int} (h : S.2.2.2 = day) : dP day (X_auction V S r d) := by
  unfold X_auction
  repeat (first | refine dP_if ?_ ?_ | exact dP_mk h | exact dP_mk (w_auction_d.trans h))
theorem dP_X_serve (V : Nat → v_D) (S : w_S) (r : Nat → Int) (x y : Nat → Int) (d : Nat) (at_ : Int) {day : Int} (h : S.2.2.2 = day) : dP day (X_serve V S r x y d at_) := by
  unfold X_serve
  repeat (first | refine dP_if ?_ ?_ | exact dP_mk h)
theorem dP_X_waive (S : w_S) (r : Nat → Int) {day : Int} (h : S.2.2.2 = day) : dP day (X_waive S r) := by
  unfold X_waive
  repeat (first | refine dP_if ?_ ?_ | exact dP_mk h)
theorem dP_X_lease (V : Nat → v_D) (S : w_S) (r : Nat → Int) (d : Nat) (at_ : Int) {day : Int} (h : S.2.2.2 = day) : dP day (X_lease V S r d at_) := by
  unfold X_lease
  repeat (first | refine dP_if ?_ ?_ | exact dP_mk h)
theorem dP_X_caution (V : Nat → v_D) (S : w_S) (r : Nat → Int) (d : Nat) (at_ : Int) {day : Int} (h : S.2.2.2 = day) : dP day (X_caution V S r d at_) := by
  unfold X_caution
  repeat (first | refine dP_if ?_ ?_ | exact dP_mk h)
theorem dP_X_option (V : Nat → v_D) (S : w_S) (r : Nat → Int) (d : Nat) (at_ : Int) {day : Int} (h : S.2.2.2 = day) : dP day (X_option V S r d at_) := by
  unfold X_option
  repeat (first | refine dP_if ?_ ?_ | exact dP_mk h)
theorem dP_X_take2 (V : Nat → v_D) (S : w_S) (o : w_T) (k : Nat) {day : Int} (h : S.2.2.2 = day) : dP day (X_take2 V S o k) := by
  unfold X_take2
  repeat (first | refine dP_if ?_ ?_ | exact dP_mk h)
theorem dP_X_take (V : Nat → v_D) (S : w_S) (r : Nat → Int) (d : Nat) {day : Int} (h : S.2.2.2 = day) : dP day (X_take V S r d) := by
  unfold X_take
  repeat (first | exact dP_X_take2 _ _ _ _ h | exact dP_mk h | refine dP_if ?_ ?_)
theorem dP_X_end (S : w_S) (ss r : Nat → Int) {day : Int} (h : S.2.2.2 = day) : dP day (X_end S ss r) := by
  unfold X_end
  repeat (first | refine dP_if ?_ ?_ | exact dP_mk h)
theorem X_act_d {V : Nat → v_D} {S : w_S} {ss r : Nat → Int} {d : Nat} {at_ day : Int} (h : S.2.2.2 = day) : dP day (X_act V S ss r d at_) := by
  unfold X_act
  refine dP_ite (dP_X_person _ _ _ _ h) ?_
  refine dP_ite (dP_X_firm _ _ _ _ _ h) ?_
  refine dP_ite (dP_X_guard _ _ h) ?_
  refine dP_ite (dP_X_die _ _ _ _ h) ?_
  refine dP_ite (dP_X_close _ _ h) ?_
  refine dP_ite (dP_X_sell _ _ _ _ _ h) ?_
  refine dP_ite (dP_X_split _ _ _ _ h) ?_
  refine dP_ite (dP_X_join _ _ _ _ h) ?_
  refine dP_ite (dP_X_border _ _ _ _ h) ?_
  refine dP_ite (dP_X_charge _ _ _ _ _ h) ?_
  refine dP_ite (dP_X_pay _ _ _ _ h) ?_
  refine dP_ite (dP_X_assign _ _ h) ?_
  refine dP_ite (dP_X_rank _ _ h) ?_
  refine dP_ite (dP_X_free _ _ h) ?_
  refine dP_ite (dP_X_auction _ _ _ _ h) ?_
  refine dP_ite (dP_X_serve _ _ _ _ _ _ _ h) ?_
  refine dP_ite (dP_X_waive _ _ h) ?_
  refine dP_ite (dP_X_lease _ _ _ _ _ h) ?_
  refine dP_ite (dP_X_caution _ _ _ _ _ h) ?_
  refine dP_ite (dP_X_option _ _ _ _ _ h) ?_
  refine dP_ite (dP_X_take _ _ _ _ h) ?_
  exact dP_X_end _ _ _ h
theorem X_perf_d {V : Nat → v_D} {S : w_S} {d : Nat} {a : Int} {X : Int × w_S} (h : X_perf V S d a X) : X.2.2.2.2 = (V d).1 4 := by
  rcases h with ⟨e, -⟩ | ⟨ss, r, -, -, e⟩
  · rw [e]; rfl
  · rw [e]; exact X_act_d rfl
