noncomputable section
/-! the fresh objects in closed form: behind the layout; the constructors run -/
def x_kst : List x_O := [(20, 8, 0, [80, 40, 40, 40, 40, 40, 30, 60]), (20, 8, 0, [0, 0, 40, 80, 120, 160, 200, 230]), (20, 7, 0, [5, 4, 2, 4, 4, 1, 2]), (20, 7, 0, [5, 4, 2, 4, 4, 1, 2])] ++ ((List.range 29).map (fun i => (15, i + 1, 0, [])) ++ (List.range 29).map (fun i => (22, x_get 0 e_slen i, 0, (x_get [] e_sby i).map (fun n => Int.ofNat n))))
def x_B0 (a : Nat) : x_O := cond (Nat.blt a 1000000) (99, 0, 0, []) (x_get (99, 0, 0, []) x_kst (a - 1000001))
def x_r1 (n : Nat) : x_A := x_run x_C x_B0 (e_sh 0) n 60 (x_C 0).1 (x_C 0).1 0 (e_loc (x_C 0).2 [.inr (.inr (.inl (.ofNat 0)))]) [] (x_put [] 0 (11, 15, 0, x_get [] x_tms 11)) 1
theorem x_t0 : (x_r1 9000 []).isSome = true := by decide +kernel
end
