/-! what comes of a DEED is the same over two Worlds with the same in them -/
theorem E_perf {V : Nat → v_D} {S S' : w_S} {d : Nat} {at_ : Int} {X X' : Int × w_S} (h : E_S S S') (hz : R_z S) (hg : w_rg S) (hu : w_un S) (hv : v_ok (V d)) (hp : (((V d).2.2.2.1).length : Int) = (V d).1 15) (hsl : ∀ k : Nat, (k : Int) < S.1 7 → 0 ≤ r_get (w_t S 7 k).2.1 0 ∧ r_get (w_t S 7 k).2.1 0 < S.1 0) (a : X_perf V S d at_ X) (b : X_perf V S' d at_ X') : E_O X X' := by
  have hd := E_set (x := (V d).1 4) h
  rcases a with ⟨a1, a2⟩ | ⟨ss, r, a1, a2, a3⟩
  · rcases b with ⟨b1, b2⟩ | ⟨ss', r', b1, b2, b3⟩
    · rw [a1, b1]; exact E_mk hd
    · exact absurd (E_nok (E_symm hd) b1) (a2 _)
  · rcases b with ⟨b1, b2⟩ | ⟨ss', r', b1, b2, b3⟩
    · exact absurd (E_nok hd a1) (b2 _)
    · have b1' := E_nok (E_symm hd) b1
      have e : X_act V (d_set S' ((V d).1 4)) ss' r' d at_ = X_act V (d_set S' ((V d).1 4)) ss r d at_ := X_act_c hv hp (fun k hk h10 => by
        have u := n_uniq (S := d_set S ((V d).1 4)) hu a1 b1' hk h10
        have u1 : (ss k).toNat = (ss' k).toNat := congrArg Prod.fst u
        have u2 : (r k).toNat = (r' k).toNat := congrArg Prod.snd u
        have n1 := a2 k hk h10
        have n2 := b2 k hk h10
        omega)
      rw [a3, b3, e]
      exact E_act hd hz hg hv a1 a2 hsl
