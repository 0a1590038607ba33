/-! THE MODEL: stretches of a CUT -/
theorem m_shr63 {x : Int} (h : -4611686018427387904 ≤ x ∧ x ≤ 4611686018427387904) : f_shrJ x 63 = if x < 0 then -1 else 0 := by
  have b : ((Int32.ofInt 63).toInt64 &&& 63 : Int64) = 63 := by decide
  unfold f_shrJ
  rw [b]
  have e : (Int64.ofInt x >>> (63 : Int64)).toInt = ((BitVec.ofInt 64 x).sshiftRight 63).toInt := rfl
  rw [e, BitVec.toInt_sshiftRight, BitVec.toInt_ofInt, Int.bmod_def, Int.shiftRight_eq_div_pow]
  split <;> split <;> omega
theorem m_ushr63 {x : Int} (h : -4611686018427387904 ≤ x ∧ x ≤ 4611686018427387904) : f_ushrJ (e_w64 (-x)) 63 = if 0 < x then 1 else 0 := by
  have b : ((Int32.ofInt 63).toInt64.toUInt64 &&& Int64.toUInt64 63 : UInt64) = 63 := by decide
  unfold f_ushrJ
  rw [b, s_wj (by omega) (by omega)]
  have e : ((Int64.ofInt (-x)).toUInt64 >>> (63 : UInt64)).toInt64.toInt = ((BitVec.ofInt 64 (-x)) >>> 63).toInt := rfl
  rw [e, BitVec.toInt_ushiftRight, if_neg (by decide), BitVec.toNat_ofInt, Nat.shiftRight_eq_div_pow]
  split <;> omega
theorem m_sgn {M : e_M} {x : Int} {Q : Int → Prop} (h : -4611686018427387904 ≤ x ∧ x ≤ 4611686018427387904) (hq : Q (if 0 < x then 1 else if x < 0 then -1 else 0)) : WJ13_signum_95d88 x M Q := by
  unfold WJ13_signum_95d88 VJ13_signum_95d88
  rw [m_shr63 h, m_ushr63 h]
  have o1 : f_orJ (-1) 0 = -1 := by decide
  have o2 : f_orJ 0 1 = 1 := by decide
  have o3 : f_orJ 0 0 = 0 := by decide
  by_cases c : 0 < x
  · rw [if_pos c] at hq ⊢
    rw [if_neg (by omega), o2]; exact hq
  · rw [if_neg c] at hq ⊢
    by_cases c2 : x < 0
    · rw [if_pos c2] at hq ⊢
      rw [o1]; exact hq
    · rw [if_neg c2] at hq ⊢
      rw [o3]; exact hq
def j_sg (x : Int) : Int := if 0 < x then 1 else if x < 0 then -1 else 0
theorem j_sg2 {x y : Int} : (e_w32 (j_sg x * j_sg y) < 0 ↔ x * y < 0) := by
  have s := gt_sp x y
  unfold j_sg
  by_cases c1 : 0 < x
  · rw [if_pos c1, Int.one_mul]
    by_cases d1 : 0 < y
    · rw [if_pos d1]
      have := s.1 c1 d1
      exact ⟨fun z => absurd z (by decide), fun z => by omega⟩
    · rw [if_neg d1]
      by_cases d2 : y < 0
      · rw [if_pos d2]
        have := s.2.1 c1 d2
        exact ⟨fun _ => this, fun _ => by decide⟩
      · rw [if_neg d2]
        have := s.2.2.2.2.2 (by omega)
        exact ⟨fun z => absurd z (by decide), fun z => by omega⟩
  · rw [if_neg c1]
    by_cases c2 : x < 0
    · rw [if_pos c2]
      by_cases d1 : 0 < y
      · rw [if_pos d1]
        have := s.2.2.1 c2 d1
        exact ⟨fun _ => this, fun _ => by decide⟩
      · rw [if_neg d1]
        by_cases d2 : y < 0
        · rw [if_pos d2]
          have := s.2.2.2.1 c2 d2
          exact ⟨fun z => absurd z (by decide), fun z => by omega⟩
        · rw [if_neg d2]
          have := s.2.2.2.2.2 (by omega)
          exact ⟨fun z => absurd z (by decide), fun z => by omega⟩
    · rw [if_neg c2, Int.zero_mul]
      have := s.2.2.2.2.1 (by omega)
      exact ⟨fun z => absurd z (by decide), fun z => by omega⟩
theorem g_turn_b {ax ay bx b cx cy : Int} (h1 : -2000 ≤ bx - ax ∧ bx - ax ≤ 2000) (h2 : -2000 ≤ b - ay ∧ b - ay ≤ 2000) (h3 : -2000 ≤ cx - ax ∧ cx - ax ≤ 2000) (h4 : -2000 ≤ cy - ay ∧ cy - ay ≤ 2000) : -8000000 ≤ g_turn ax ay bx b cx cy ∧ g_turn ax ay bx b cx cy ≤ 8000000 := by
  have p1 := s_mulb h1.1 h1.2 h4.1 h4.2 (by decide) (by decide)
  have p2 := s_mulb h2.1 h2.2 h3.1 h3.2 (by decide) (by decide)
  unfold g_turn
  omega
/-- two products of signs -/
theorem m_cross {M : e_M} {a b c d : Int} {P R : Prop} (ha : -8000000 ≤ a ∧ a ≤ 8000000) (hb : -8000000 ≤ b ∧ b ≤ 8000000) (hc : -8000000 ≤ c ∧ c ≤ 8000000) (hd : -8000000 ≤ d ∧ d ≤ 8000000) (no : ¬ (a * b < 0 ∧ c * d < 0) → P) (yes : (a * b < 0 ∧ c * d < 0) → R) : WJ13_signum_95d88 a M (fun r7 => WJ13_signum_95d88 b M (fun r8 => (0 ≤ e_w32 (r7 * r8) → P) ∧ (e_w32 (r7 * r8) < 0 → WJ13_signum_95d88 c M (fun r9 => WJ13_signum_95d88 d M (fun r10 => (0 ≤ e_w32 (r9 * r10) → P) ∧ (e_w32 (r9 * r10) < 0 → R)))))) := by
  refine m_sgn (by omega) (m_sgn (by omega) ?_)
  have e1 : e_w32 (j_sg a * j_sg b) < 0 ↔ a * b < 0 := j_sg2
  have e2 : e_w32 (j_sg c * j_sg d) < 0 ↔ c * d < 0 := j_sg2
  refine ⟨fun z => no (fun w => ?_), fun z => m_sgn (by omega) (m_sgn (by omega) ⟨fun z2 => no (fun w => ?_), fun z2 => yes ⟨e1.mp z, e2.mp z2⟩⟩)⟩
  · have := e1.mpr w.1
    have z : 0 ≤ e_w32 (j_sg a * j_sg b) := z
    omega
  · have := e2.mpr w.2
    have z2 : 0 ≤ e_w32 (j_sg c * j_sg d) := z2
    omega
theorem m_turn2 {M : e_M} {a b c : Int × Int} {ax ay bx b' cx cy : Int} {Q : Int → Prop} (e : (ax, ay) = a ∧ (bx, b') = b ∧ (cx, cy) = c) (ha : s_lp a) (hb : s_lp b) (hc : s_lp c) (hq : -8000000 ≤ g_T a b c → g_T a b c ≤ 8000000 → Q (g_T a b c)) : WX12_turn ax ay bx b' cx cy M Q := by
  obtain ⟨e1, e2, e3⟩ := e
  subst e1 e2 e3
  obtain ⟨a1, a2⟩ := ha
  obtain ⟨b1, b2⟩ := hb
  obtain ⟨c1, c2⟩ := hc
  dsimp only at *
  have bd := g_turn_b (ax := ax) (ay := ay) (bx := bx) (b := b') (cx := cx) (cy := cy) (by omega) (by omega) (by omega) (by omega)
  exact m_turn (by omega) (by omega) (by omega) (by omega) (hq bd.1 bd.2)
theorem m_lies2 {M : e_M} {a b c : Int × Int} {ax ay bx b' cx cy : Int} {Q : Int → Prop} (e : (ax, ay) = a ∧ (bx, b') = b ∧ (cx, cy) = c) (ha : s_lp a) (hb : s_lp b) (hc : s_lp c) (q1 : g_O a b c = true → Q 1) (q0 : g_O a b c = false → Q 0) : WX12_lies ax ay bx b' cx cy M Q := by
  obtain ⟨e1, e2, e3⟩ := e
  subst e1 e2 e3
  obtain ⟨a1, a2⟩ := ha
  obtain ⟨b1, b2⟩ := hb
  obtain ⟨c1, c2⟩ := hc
  dsimp only at *
  exact m_lies (by omega) (by omega) (by omega) (by omega) q1 q0
/-- the POINTS of the CUT at hand -/
def j_cps (M : e_M) (x m : Nat) (ps : s_Fig) : Prop := ps.length = m ∧ ∀ k, k < m → (M 4475 (12 * x + k), M 4476 (12 * x + k)) = g_pt ps k
theorem m_clear {M : e_M} {f n x m i : Nat} {ps : s_Fig} {f' n' i' : Int} {Q : Int → Prop} (hc : j_cut M x m) (hp : j_cps M x m ps) (ef : f' = (f : Int)) (en : n' = (n : Int)) (ei : i' = (i : Int)) (hf : f + n ≤ 4800) (hb : j_fgb M f n) (him : i + 1 < m) (lp : ∀ k, k < m → s_lp (g_pt ps k)) (hg : g_good (j_fg M f n)) (cor1 : ∀ k, k < n → g_pt (j_fg M f n) k = g_pt ps i → i = 0) (cor2 : ∀ k, k < n → g_pt (j_fg M f n) k = g_pt ps (i + 1) → i + 2 = m) (q1 : g_ins (j_fg M f n) (g_pt ps i) (g_pt ps (i + 1)) → Q 1) (q0 : ¬ g_ins (j_fg M f n) (g_pt ps i) (g_pt ps (i + 1)) → Q 0) : WX12_clear f' n' i' M Q := by
  subst ef en ei
  have ln : (j_fg M f n).length = n := j_fg_len
  have fb := j_fgb_pt hb
  have m12 := hc.2.2.2
  have ea := hp.2 i (by omega)
  have eb := hp.2 (i + 1) him
  have la := lp i (by omega)
  have lb := lp (i + 1) him
  generalize hA : g_pt ps i = a at *
  generalize hB : g_pt ps (i + 1) = b at *
  have a1 : M 4475 (12 * x + i) = a.1 := congrArg Prod.fst ea
  have a2 : M 4476 (12 * x + i) = a.2 := congrArg Prod.snd ea
  have b1 : M 4475 (12 * x + (i + 1)) = b.1 := congrArg Prod.fst eb
  have b2 : M 4476 (12 * x + (i + 1)) = b.2 := congrArg Prod.snd eb
  have k63 : ∀ l1 l2 : Int, (l1 = if i = 0 then 1 else 0) → (l2 = if i + 2 = m then 1 else 0) → ∃ j, WX12_clear_63 M Q j f n a.1 a.2 b.1 b.2 l1 l2 0 := by
    intro l1 l2 el1 el2
    refine s_up (σ := Unit) (P := fun dd k _ => WX12_clear_63 M Q dd f n a.1 a.2 b.1 b.2 l1 l2 k) (n := (n : Int)) (i0 := 0) (s := ()) (fun k _ => ∀ j : Nat, (j : Int) < k → g_inb (j_fg M f n) a b j = false) (by omega) (fun j hj => by omega) ?_ ?_
    · intro d _ hI
      have all : ∀ k, k < (j_fg M f n).length → g_inb (j_fg M f n) a b k = false := fun k hk => hI k (by rw [ln] at hk; omega)
      unfold WX12_clear_63 VX12_clear_63
      have u1 := la.1
      have u2 := la.2
      have u3 := lb.1
      have u4 := lb.2
      rw [s_wj (x := a.1 + b.1) (by omega) (by omega), s_wj (x := a.2 + b.2) (by omega) (by omega)]
      refine ⟨fun _ => m_lieAt rfl rfl hf hb (by omega) (by omega) (Or.inr rfl) ?_, fun z => by omega⟩
      rw [hg _ _ 2 (Or.inr rfl)]
      exact ⟨fun ne => q0 (fun z => ne z.2), fun e => q1 ⟨all, e⟩⟩
    · intro d k' _ k1 k2 hI ih
      obtain ⟨k, ek⟩ : ∃ k : Nat, k' = k := ⟨k'.toNat, by omega⟩
      subst ek
      have hk : k < n := by omega
      have hnx := g_nx_lt (n := n) hk
      have pk := j_fg_at (M := M) (f := f) hk
      have pn := j_fg_at (M := M) (f := f) hnx
      have lk := g_pt_b fb k
      have lnx := g_pt_b fb (g_nx n k)
      have inb : g_inb (j_fg M f n) a b k = ((!(decide (g_pt (j_fg M f n) k = a) || decide (g_pt (j_fg M f n) k = b)) && g_O a b (g_pt (j_fg M f n) k)) || g_X a b (g_pt (j_fg M f n) k) (g_pt (j_fg M f n) (g_nx n k))) := by unfold g_inb; rw [ln]
      have bad : g_inb (j_fg M f n) a b k = true → Q 0 := fun e => q0 (fun z => by
        have := z.1 k (by rw [ln]; exact hk)
        rw [this] at e
        cases e)
      have go : g_inb (j_fg M f n) a b k = false → WX12_clear_314 M (WX12_clear_63 M Q d) Q f n a.1 a.2 b.1 b.2 l1 l2 k := fun e => by
        unfold WX12_clear_314 VX12_clear_314
        rw [s_w (by omega) (by omega)]
        refine ih () (fun j hj => ?_)
        by_cases c : j = k
        · rw [c]; exact e
        · exact hI j (by omega)
      have ck1 := cor1 k hk
      have ck2 := cor2 k hk
      have ek : (M 4480 (f + k), M 4481 (f + k)) = g_pt (j_fg M f n) k := pk.symm
      have en2 : (M 4480 (f + g_nx n k), M 4481 (f + g_nx n k)) = g_pt (j_fg M f n) (g_nx n k) := pn.symm
      have c1 : M 4480 (f + k) = (g_pt (j_fg M f n) k).1 := congrArg Prod.fst ek
      have c2 : M 4481 (f + k) = (g_pt (j_fg M f n) k).2 := congrArg Prod.snd ek
      unfold WX12_clear_63 VX12_clear_63
      rw [s_w (x := (k : Int) + 1) (by omega) (by omega), g_nx_mod hk, s_w (x := (f : Int) + (g_nx n k : Nat)) (by omega) (by omega), s_w (x := (f : Int) + (k : Int)) (by omega) (by omega), show ((f : Int) + (k : Int)).toNat = f + k by omega]
      refine ⟨fun z => by omega, fun _ => ⟨by omega, fun y2 e2 => ?_⟩⟩
      subst e2
      rw [show ((f : Int) + ((g_nx n k : Nat) : Int)).toNat = f + g_nx n k by omega]
      generalize g_pt (j_fg M f n) k = C at *
      generalize g_pt (j_fg M f n) (g_nx n k) = D at *
      refine ⟨by omega, by omega, by omega, by omega, m_turn2 (a := a) (b := b) (c := C) ⟨rfl, rfl, ek⟩ la lb lk (fun g1 g2 => m_turn2 (a := a) (b := b) (c := D) ⟨rfl, rfl, en2⟩ la lb lnx (fun g3 g4 => m_turn2 (a := C) (b := D) (c := a) ⟨ek, en2, rfl⟩ lk lnx la (fun g5 g6 => m_turn2 (a := C) (b := D) (c := b) ⟨ek, en2, rfl⟩ lk lnx lb (fun g7 g8 => m_cross ⟨g1, g2⟩ ⟨g3, g4⟩ ⟨g5, g6⟩ ⟨g7, g8⟩ (fun nx => ?_) (fun yx => bad ?_)))))⟩
      · have gx : g_X a b C D = false := by
          unfold g_X
          cases e : (decide (g_T a b C * g_T a b D < 0) && decide (g_T C D a * g_T C D b < 0)) with
          | false => rfl
          | true =>
            rw [Bool.and_eq_true, decide_eq_true_iff, decide_eq_true_iff] at e
            exact absurd e nx
        rw [gx, Bool.or_false] at inb
        -- which ends it is
        have k275 : ∀ t1 t2 : Int, (t1 = if C = a then 1 else 0) → (t2 = if C = b then 1 else 0) → WX12_clear_275 M (WX12_clear_63 M Q d) Q f n a.1 a.2 b.1 b.2 l1 l2 k C.1 C.2 (g_T a b C) t1 t2 := by
          intro t1 t2 et1 et2
          unfold WX12_clear_275 VX12_clear_275
          refine ⟨fun ne => go ?_, fun e0 => m_lies2 (a := a) (b := b) (c := C) ⟨rfl, rfl, rfl⟩ la lb lk (fun o => ⟨fun z => absurd z (by decide), fun _ => ⟨fun nt => go ?_, fun zt => ⟨fun nt2 => go ?_, fun zt2 => bad ?_⟩⟩⟩) (fun o => ⟨fun _ => go ?_, fun z => absurd rfl z⟩)⟩
          · rw [inb]
            have : g_O a b C = false := by
              cases e : g_O a b C with
              | false => rfl
              | true => exact absurd (g_on_iff.mp e).1 ne
            rw [this, Bool.and_false]
          · have : C = a := by
              refine Classical.byContradiction (fun w => nt ?_)
              rw [et1, if_neg w]
            rw [inb, decide_eq_true this]; rfl
          · have : C = b := by
              refine Classical.byContradiction (fun w => nt2 ?_)
              rw [et2, if_neg w]
            rw [inb, decide_eq_true this, Bool.or_true]; rfl
          · have n1 : ¬ C = a := fun w => by rw [et1, if_pos w] at zt; exact absurd zt (by decide)
            have n2 : ¬ C = b := fun w => by rw [et2, if_pos w] at zt2; exact absurd zt2 (by decide)
            rw [inb, decide_eq_false n1, decide_eq_false n2, o]; rfl
          · rw [inb, o, Bool.and_false]
        have peq : ∀ {p q : Int × Int}, p = q ↔ p.1 = q.1 ∧ p.2 = q.2 := fun {p q} => ⟨fun e => by rw [e]; exact ⟨rfl, rfl⟩, fun e => Prod.ext e.1 e.2⟩
        have k247 : ∀ t1 : Int, (t1 = if C = a then 1 else 0) → WX12_clear_247 M (WX12_clear_63 M Q d) Q f n a.1 a.2 b.1 b.2 l1 l2 k C.1 C.2 (g_T a b C) t1 := by
          intro t1 et1
          have k274 : ¬ C = b → WX12_clear_274 M (WX12_clear_63 M Q d) Q f n a.1 a.2 b.1 b.2 l1 l2 k C.1 C.2 (g_T a b C) t1 := fun w => k275 t1 0 et1 (by rw [if_neg w])
          unfold WX12_clear_247 VX12_clear_247
          refine ⟨fun z => k274 (fun w => ?_), fun nz => ⟨fun w => k274 (fun e => w (peq.mp e).1), fun w1 => ⟨fun w => k274 (fun e => w (peq.mp e).2), fun w2 => k275 t1 1 et1 (by rw [if_pos (peq.mpr ⟨w1, w2⟩)])⟩⟩⟩
          rw [el2, if_pos (ck2 w)] at z
          exact absurd z (by decide)
        have k246 : ¬ C = a → WX12_clear_246 M (WX12_clear_63 M Q d) Q f n a.1 a.2 b.1 b.2 l1 l2 k C.1 C.2 (g_T a b C) := fun w => k247 0 (by rw [if_neg w])
        rw [c1, c2]
        show WX12_clear_221 M (WX12_clear_63 M Q d) Q f n a.1 a.2 b.1 b.2 l1 l2 k C.1 C.2 (g_T a b C)
        unfold WX12_clear_221 VX12_clear_221
        refine ⟨fun z => k246 (fun w => ?_), fun nz => ⟨fun w => k246 (fun e => w (peq.mp e).1), fun w1 => ⟨fun w => k246 (fun e => w (peq.mp e).2), fun w2 => k247 1 (by rw [if_pos (peq.mpr ⟨w1, w2⟩)])⟩⟩⟩
        rw [el1, if_pos (ck1 w)] at z
        exact absurd z (by decide)
      · rw [inb]
        have : g_X a b C D = true := by
          unfold g_X
          rw [decide_eq_true yx.1, decide_eq_true yx.2]; rfl
        rw [this, Bool.or_true]
  have k41 : ∀ l1 : Int, (l1 = if i = 0 then 1 else 0) → WX12_clear_41 M Q f n i a.1 a.2 b.1 b.2 l1 := by
    intro l1 el1
    unfold WX12_clear_41 VX12_clear_41
    rw [hc.2.1, s_w (x := (m : Int) - 2) (by omega) (by omega)]
    exact ⟨fun ne => k63 l1 0 el1 (by rw [if_neg (by omega)]), fun e => k63 l1 1 el1 (by rw [if_pos (by omega)])⟩
  unfold WX12_clear VX12_clear
  rw [s_w (x := (i : Int) + 1) (by omega) (by omega)]
  refine m_px hc rfl (by omega) (m_py hc rfl (by omega) (m_px (k := i + 1) hc (by omega) (by omega) (m_py (k := i + 1) hc (by omega) (by omega) ?_)))
  rw [a1, a2, b1, b2]
  exact ⟨fun ne => k41 0 (by rw [if_neg (by omega)]), fun e => k41 1 (by rw [if_pos (by omega)])⟩
/-- what the model asks of two stretches of a CUT -/
def j_tch (ps : s_Fig) (i j : Nat) : Prop := if j = i + 1 then (g_pt ps (i + 1) = g_pt ps (j + 1) ∨ g_pt ps i = g_pt ps (i + 1) ∨ (g_T (g_pt ps i) (g_pt ps (i + 1)) (g_pt ps (j + 1)) = 0 ∧ 0 < ((g_pt ps i).1 - (g_pt ps (i + 1)).1) * ((g_pt ps (j + 1)).1 - (g_pt ps (i + 1)).1) + ((g_pt ps i).2 - (g_pt ps (i + 1)).2) * ((g_pt ps (j + 1)).2 - (g_pt ps (i + 1)).2))) else g_mt2 false (g_pt ps i) (g_pt ps (i + 1)) (g_pt ps j) (g_pt ps (j + 1)) = true
theorem m_touch {M : e_M} {x m i j : Nat} {ps : s_Fig} {i' j' : Int} {Q : Int → Prop} (hc : j_cut M x m) (hp : j_cps M x m ps) (ei : i' = (i : Int)) (ej : j' = (j : Int)) (hij : i < j) (hj : j + 1 < m) (lp : ∀ k, k < m → s_lp (g_pt ps k)) (q1 : j_tch ps i j → Q 1) (q0 : ¬ j_tch ps i j → Q 0) : WX12_touch i' j' M Q := by
  subst ei ej
  have m12 := hc.2.2.2
  unfold j_tch at q1 q0
  have cell : ∀ k, k < m → M 4475 (12 * x + k) = (g_pt ps k).1 ∧ M 4476 (12 * x + k) = (g_pt ps k).2 := fun k hk => ⟨congrArg Prod.fst (hp.2 k hk), congrArg Prod.snd (hp.2 k hk)⟩
  have la := lp i (by omega)
  have lb := lp (i + 1) (by omega)
  have lc := lp j (by omega)
  have le := lp (j + 1) hj
  unfold WX12_touch VX12_touch
  rw [s_w (x := (i : Int) + 1) (by omega) (by omega), s_w (x := (j : Int) + 1) (by omega) (by omega)]
  refine m_px hc rfl (by omega) (m_py hc rfl (by omega) (m_px (k := i + 1) hc (by omega) (by omega) (m_py (k := i + 1) hc (by omega) (by omega) (m_px hc rfl (by omega) (m_py hc rfl (by omega) (m_px (k := j + 1) hc (by omega) (by omega) (m_py (k := j + 1) hc (by omega) (by omega) ?_)))))))
  rw [(cell i (by omega)).1, (cell i (by omega)).2, (cell (i + 1) (by omega)).1, (cell (i + 1) (by omega)).2, (cell j (by omega)).1, (cell j (by omega)).2, (cell (j + 1) hj).1, (cell (j + 1) hj).2]
  have peq : ∀ {p q : Int × Int}, p = q ↔ p.1 = q.1 ∧ p.2 = q.2 := fun {p q} => ⟨fun e => by rw [e]; exact ⟨rfl, rfl⟩, fun e => Prod.ext e.1 e.2⟩
  refine ⟨fun ne => ?_, fun e => ?_⟩
  · rw [if_neg (by omega)] at q1 q0
    generalize g_pt ps i = a at *
    generalize g_pt ps (i + 1) = b at *
    generalize g_pt ps j = c at *
    generalize g_pt ps (j + 1) = e at *
    have nx : ∀ h : Bool, h = (decide (g_T a b c * g_T a b e < 0) && decide (g_T c e a * g_T c e b < 0)) → g_mt2 false a b c e = ((g_O a b e || g_O c e a) || ((g_O a b c || g_O c e b) || h)) := fun h eh => by rw [eh]; rfl
    refine m_turn2 (a := a) (b := b) (c := c) ⟨rfl, rfl, rfl⟩ la lb lc (fun g1 g2 => m_turn2 (a := a) (b := b) (c := e) ⟨rfl, rfl, rfl⟩ la lb le (fun g3 g4 => m_turn2 (a := c) (b := e) (c := a) ⟨rfl, rfl, rfl⟩ lc le la (fun g5 g6 => m_turn2 (a := c) (b := e) (c := b) ⟨rfl, rfl, rfl⟩ lc le lb (fun g7 g8 => m_cross ⟨g1, g2⟩ ⟨g3, g4⟩ ⟨g5, g6⟩ ⟨g7, g8⟩ (fun no => ?_) (fun yes => q1 ?_)))))
    · have gx : (decide (g_T a b c * g_T a b e < 0) && decide (g_T c e a * g_T c e b < 0)) = false := by
        cases z : (decide (g_T a b c * g_T a b e < 0) && decide (g_T c e a * g_T c e b < 0)) with
        | false => rfl
        | true =>
          rw [Bool.and_eq_true, decide_eq_true_iff, decide_eq_true_iff] at z
          exact absurd z no
      rw [nx false gx.symm] at q1 q0
      show WX12_touch_250 M Q a.1 a.2 b.1 b.2 c.1 c.2 e.1 e.2
      have k319 : ((g_O a b e || g_O c e a) || ((g_O a b c || g_O c e b) || false)) = true → WX12_touch_319 M Q := fun z => q1 z
      unfold WX12_touch_250 VX12_touch_250
      refine m_lies2 (a := a) (b := b) (c := c) ⟨rfl, rfl, rfl⟩ la lb lc (fun o1 => ⟨fun _ => k319 (by rw [o1]; simp), fun z => absurd z (by decide)⟩) (fun o1 => ⟨fun z => absurd rfl z, fun _ => m_lies2 (a := a) (b := b) (c := e) ⟨rfl, rfl, rfl⟩ la lb le (fun o2 => ⟨fun _ => k319 (by rw [o2]; simp), fun z => absurd z (by decide)⟩) (fun o2 => ⟨fun z => absurd rfl z, fun _ => m_lies2 (a := c) (b := e) (c := a) ⟨rfl, rfl, rfl⟩ lc le la (fun o3 => ⟨fun _ => k319 (by rw [o3]; simp), fun z => absurd z (by decide)⟩) (fun o3 => ⟨fun z => absurd rfl z, fun _ => m_lies2 (a := c) (b := e) (c := b) ⟨rfl, rfl, rfl⟩ lc le lb (fun o4 => ⟨fun z => absurd z (by decide), fun _ => k319 (by rw [o4]; simp)⟩) (fun o4 => ⟨fun _ => q0 (by rw [o1, o2, o3, o4]; simp), fun z => absurd rfl z⟩)⟩)⟩)⟩)
    · rw [nx true (by rw [decide_eq_true yes.1, decide_eq_true yes.2]; rfl)]; simp
  · rw [if_pos (by omega)] at q1 q0
    generalize g_pt ps i = a at *
    generalize g_pt ps (i + 1) = b at *
    generalize g_pt ps j = c at *
    generalize g_pt ps (j + 1) = e at *
    have u1 := la.1
    have u2 := la.2
    have u3 := lb.1
    have u4 := lb.2
    have u5 := le.1
    have u6 := le.2
    have k103 : ¬ b = e → ¬ a = b → WX12_touch_103 M Q a.1 a.2 b.1 b.2 e.1 e.2 := by
      intro n1 n2
      have p1 := s_mulb (A := 1000) (B := 1000) (x := a.1 - b.1) (y := e.1 - b.1) (by omega) (by omega) (by omega) (by omega) (by decide) (by decide)
      have p2 := s_mulb (A := 1000) (B := 1000) (x := a.2 - b.2) (y := e.2 - b.2) (by omega) (by omega) (by omega) (by omega) (by decide) (by decide)
      unfold WX12_touch_103 VX12_touch_103
      rw [s_wj (x := a.1 - b.1) (by omega) (by omega), s_wj (x := e.1 - b.1) (by omega) (by omega), s_wj (x := a.2 - b.2) (by omega) (by omega), s_wj (x := e.2 - b.2) (by omega) (by omega), s_wj (x := (a.1 - b.1) * (e.1 - b.1)) (by omega) (by omega), s_wj (x := (a.2 - b.2) * (e.2 - b.2)) (by omega) (by omega), s_wj (x := (a.1 - b.1) * (e.1 - b.1) + (a.2 - b.2) * (e.2 - b.2)) (by omega) (by omega)]
      refine m_turn2 (a := a) (b := b) (c := e) ⟨rfl, rfl, rfl⟩ la lb le (fun _ _ => ⟨fun ne => q0 (fun z => ?_), fun e0 => ⟨fun le0 => q0 (fun z => ?_), fun gt0 => q1 (Or.inr (Or.inr ⟨e0, gt0⟩))⟩⟩)
      · rcases z with z | z | z
        · exact n1 z
        · exact n2 z
        · exact ne z.1
      · rcases z with z | z | z
        · exact n1 z
        · exact n2 z
        · omega
    have k86 : ¬ b = e → WX12_touch_86 M Q a.1 a.2 b.1 b.2 e.1 e.2 := by
      intro n1
      unfold WX12_touch_86 VX12_touch_86
      exact ⟨fun w => k103 n1 (fun z => w (peq.mp z).1), fun w1 => ⟨fun w => k103 n1 (fun z => w (peq.mp z).2), fun w2 => q1 (Or.inr (Or.inl (peq.mpr ⟨w1, w2⟩)))⟩⟩
    exact ⟨fun w => k86 (fun z => w (peq.mp z).1), fun w1 => ⟨fun w2 => q1 (Or.inl (peq.mpr ⟨w1, w2⟩)), fun w => k86 (fun z => w (peq.mp z).2)⟩⟩
/-- it is what the class asks -/
theorem j_tch_mt {ps : s_Fig} {i : Nat} (hi : g_pt ps i ≠ g_pt ps (i + 1)) : (∀ j, i < j → j + 1 < ps.length → ¬ j_tch ps i j) ↔ ¬ g_mt ps i := by
  have key : ∀ j, i < j → (j_tch ps i j ↔ g_mtj ps i j = true) := fun j hj => by
    unfold j_tch g_mtj
    by_cases c : j = i + 1
    · rw [if_pos c, decide_eq_true c]
      subst c
      have b := gt_back (a := g_pt ps i) (b := g_pt ps (i + 1)) (d := g_pt ps (i + 1 + 1)) hi
      have g : g_mt2 true (g_pt ps i) (g_pt ps (i + 1)) (g_pt ps (i + 1)) (g_pt ps (i + 1 + 1)) = true ↔ (gt_O (g_pt ps i) (g_pt ps (i + 1)) (g_pt ps (i + 1 + 1)) ∨ gt_O (g_pt ps (i + 1)) (g_pt ps (i + 1 + 1)) (g_pt ps i)) := by
        unfold g_mt2
        rw [show (!true) = false from rfl, Bool.false_and, Bool.or_false, Bool.or_eq_true, gt_gO, gt_gO]
      rw [g, ← b]
      constructor
      · rintro (z | z | z)
        · exact Or.inl z
        · exact absurd z hi
        · exact Or.inr z
      · rintro (z | z)
        · exact Or.inl z
        · exact Or.inr (Or.inr z)
    · rw [if_neg c, decide_eq_false c]
  unfold g_mt
  constructor
  · rintro h (z | ⟨j, j1, j2, j3⟩)
    · exact hi z
    · exact h j j1 j2 ((key j j1).mpr j3)
  · intro h j j1 j2 j3
    exact h (Or.inr ⟨j, j1, j2, (key j j1).mp j3⟩)
