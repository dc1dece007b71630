def f_X7_type (a0 : Int32) (V : xV) : Option (Int32 × xV) := x_b2 (f_X7_in a0 (0 : Int32) (255 : Int32) (x_up V 96 0 (0 : Int32))) (fun x3 V2 => if x3 = 0 then (some ((-1 : Int32), V2)) else (if (V2 96 2) = (100 : Int32) then (some ((-3 : Int32), V2)) else (if x_in (V2 96 2) 100 = true then (some (((V2 96 2) + 1), (x_up (x_up V2 97 ((V2 96 2).toNatClampNeg) a0) 96 2 ((V2 96 2) + 1)))) else none)))
theorem f_X7_type_ok {a0 : Int32} {V W : xV} {x : Int32} (h : f_X7_type a0 V = some (x, W)) : x_Rn (1) 99 [.ref 96, .int a0] V (some x) W := by
  refine ⟨2, kX7_type, rfl, ?_⟩
  show x_Ex (1) kX7_type 0 [.ref 96, .int a0] [] V (some x) W
  unfold f_X7_type at h
  refine q_go 6 (pc' := 10) (ls' := [.ref 96, .int a0]) (st' := [.int (255 : Int32), .int (0 : Int32), .int a0]) (V' := (x_up V 96 0 (0 : Int32))) rfl ?_
  obtain ⟨x3, V2, hc1, h⟩ := x_b2_eq h
  refine q_call (d := (0)) (as := [.int a0, .int (0 : Int32), .int (255 : Int32)]) (pc' := 13) (ls' := [.ref 96, .int a0]) (st' := []) (r1 := some x3) rfl rfl ((f_X7_in_ok hc1).up (by decide)) ?_
  by_cases hc4 : x3 = 0
  · rw [if_pos hc4] at h
    refine q_if rfl (fun c => absurd hc4 (of_decide_eq_true c)) (fun _ => ?_)
    refine q_go 1 (pc' := 17) (ls' := [.ref 96, .int a0]) (st' := [.int (-1 : Int32)]) (V' := V2) rfl ?_
    obtain ⟨rfl, rfl⟩ := x_p2 h
    exact q_ret rfl rfl
  · rw [if_neg hc4] at h
    refine q_if rfl (fun _ => ?_) (fun c => absurd hc4 (of_decide_eq_false c))
    refine q_go 3 (pc' := 24) (ls' := [.ref 96, .int a0]) (st' := [.int (100 : Int32), .int (V2 96 2)]) (V' := V2) rfl ?_
    by_cases hc5 : (V2 96 2) = (100 : Int32)
    · rw [if_pos hc5] at h
      refine q_icmp rfl (fun c => absurd hc5 (of_decide_eq_true c)) (fun _ => ?_)
      refine q_go 1 (pc' := 29) (ls' := [.ref 96, .int a0]) (st' := [.int (-3 : Int32)]) (V' := V2) rfl ?_
      obtain ⟨rfl, rfl⟩ := x_p2 h
      exact q_ret rfl rfl
    · rw [if_neg hc5] at h
      refine q_icmp rfl (fun _ => ?_) (fun c => absurd hc5 (of_decide_eq_false c))
      refine q_go 5 (pc' := 39) (ls' := [.ref 96, .int a0]) (st' := [.int a0, .int (V2 96 2), .ref 97]) (V' := V2) rfl ?_
      refine x_em (p := x_in (V2 96 2) 100 = true) (fun hz => by rw [if_neg hz] at h; cases h) (fun hc6 => ?_)
      rw [if_pos hc6] at h
      refine q_ast rfl rfl hc6 ?_
      refine q_go 8 (pc' := 54) (ls' := [.ref 96, .int a0]) (st' := [.int ((V2 96 2) + 1)]) (V' := (x_up (x_up V2 97 ((V2 96 2).toNatClampNeg) a0) 96 2 ((V2 96 2) + 1))) rfl ?_
      obtain ⟨rfl, rfl⟩ := x_p2 h
      exact q_ret rfl rfl
def f_X7_clear (V : xV) : Option (Int32 × xV) := some ((V 96 2), (x_up (x_up V 96 0 (0 : Int32)) 96 2 (0 : Int32)))
theorem f_X7_clear_ok {V W : xV} {x : Int32} (h : f_X7_clear V = some (x, W)) : x_Rn (0) 100 [.ref 96] V (some x) W := by
  refine ⟨2, kX7_clear, rfl, ?_⟩
  show x_Ex (0) kX7_clear 0 [.ref 96, .long 0] [] V (some x) W
  unfold f_X7_clear at h
  refine q_go 10 (pc' := 16) (ls' := [.ref 96, .int (V 96 2)]) (st' := [.int (V 96 2)]) (V' := (x_up (x_up V 96 0 (0 : Int32)) 96 2 (0 : Int32))) rfl ?_
  obtain ⟨rfl, rfl⟩ := x_p2 h
  exact q_ret rfl rfl
def f_X7_isThing (a0 : Int32) (V : xV) : Option (Int32 × xV) := x_b2 (f_X7_in a0 (0 : Int32) ((V 96 8) - 1) V) (fun x3 V2 => if x3 = 0 ∨ x3 = 1 then some (x3, V2) else none)
theorem f_X7_isThing_ok {a0 : Int32} {V W : xV} {x : Int32} (h : f_X7_isThing a0 V = some (x, W)) : x_Rn (1) 112 [.ref 96, .int a0] V (some x) W := by
  refine ⟨2, kX7_isThing, rfl, ?_⟩
  show x_Ex (1) kX7_isThing 0 [.ref 96, .int a0] [] V (some x) W
  unfold f_X7_isThing at h
  refine q_go 6 (pc' := 8) (ls' := [.ref 96, .int a0]) (st' := [.int ((V 96 8) - 1), .int (0 : Int32), .int a0]) (V' := V) rfl ?_
  obtain ⟨x3, V2, hc1, h⟩ := x_b2_eq h
  refine q_call (d := (0)) (as := [.int a0, .int (0 : Int32), .int ((V 96 8) - 1)]) (pc' := 11) (ls' := [.ref 96, .int a0]) (st' := []) (r1 := some x3) rfl rfl ((f_X7_in_ok hc1).up (by decide)) ?_
  refine x_em (p := x3 = 0 ∨ x3 = 1) (fun hz => by rw [if_neg hz] at h; cases h) (fun hc4 => ?_)
  rw [if_pos hc4] at h
  obtain ⟨rfl, rfl⟩ := x_p2 h
  exact q_retz rfl rfl hc4
def f_X7_thing (a0 : Int32) (a1 : Int32) (V : xV) : Option (Int32 × xV) := x_b2 (f_X7_isThing a0 (x_up V 96 0 (0 : Int32))) (fun x3 V2 => if x3 = 0 then (some ((-1 : Int32), V2)) else (x_b2 (f_X7_in a1 (0 : Int32) (3 : Int32) V2) (fun x7 V6 => if x7 = 0 then (some ((-1 : Int32), V6)) else (if a1 = 0 then (if x_in a0 6 = true then (some ((V6 99 (a0.toNatClampNeg)), V6)) else none) else (if a1 = (1 : Int32) then (if x_in ((8 : Int32) + a0) 27 = true then (some ((V6 103 (((8 : Int32) + a0).toNatClampNeg)), V6)) else none) else (if a1 = (2 : Int32) then (if x_in ((14 : Int32) + a0) 27 = true then (some ((V6 103 (((14 : Int32) + a0).toNatClampNeg)), V6)) else none) else (if x_in ((20 : Int32) + a0) 27 = true then (some ((V6 103 (((20 : Int32) + a0).toNatClampNeg)), V6)) else none)))))))
theorem f_X7_thing_ok {a0 : Int32} {a1 : Int32} {V W : xV} {x : Int32} (h : f_X7_thing a0 a1 V = some (x, W)) : x_Rn (2) 115 [.ref 96, .int a0, .int a1] V (some x) W := by
  refine ⟨3, kX7_thing, rfl, ?_⟩
  show x_Ex (2) kX7_thing 0 [.ref 96, .int a0, .int a1] [] V (some x) W
  unfold f_X7_thing at h
  refine q_go 5 (pc' := 7) (ls' := [.ref 96, .int a0, .int a1]) (st' := [.int a0, .ref 96]) (V' := (x_up V 96 0 (0 : Int32))) rfl ?_
  obtain ⟨x3, V2, hc1, h⟩ := x_b2_eq h
  refine q_call (d := (1)) (as := [.ref 96, .int a0]) (pc' := 10) (ls' := [.ref 96, .int a0, .int a1]) (st' := []) (r1 := some x3) rfl rfl ((f_X7_isThing_ok hc1).up (by decide)) ?_
  by_cases hc4 : x3 = 0
  · rw [if_pos hc4] at h
    refine q_if rfl (fun _ => ?_) (fun c => absurd hc4 (of_decide_eq_false c))
    refine q_go 1 (pc' := 23) (ls' := [.ref 96, .int a0, .int a1]) (st' := [.int (-1 : Int32)]) (V' := V2) rfl ?_
    obtain ⟨rfl, rfl⟩ := x_p2 h
    exact q_ret rfl rfl
  · rw [if_neg hc4] at h
    refine q_if rfl (fun c => absurd (of_decide_eq_true c) hc4) (fun _ => ?_)
    refine q_go 3 (pc' := 16) (ls' := [.ref 96, .int a0, .int a1]) (st' := [.int (3 : Int32), .int (0 : Int32), .int a1]) (V' := V2) rfl ?_
    obtain ⟨x7, V6, hc5, h⟩ := x_b2_eq h
    refine q_call (d := (1)) (as := [.int a1, .int (0 : Int32), .int (3 : Int32)]) (pc' := 19) (ls' := [.ref 96, .int a0, .int a1]) (st' := []) (r1 := some x7) rfl rfl ((f_X7_in_ok hc5).up (by decide)) ?_
    by_cases hc8 : x7 = 0
    · rw [if_pos hc8] at h
      refine q_if rfl (fun c => absurd hc8 (of_decide_eq_true c)) (fun _ => ?_)
      refine q_go 1 (pc' := 23) (ls' := [.ref 96, .int a0, .int a1]) (st' := [.int (-1 : Int32)]) (V' := V6) rfl ?_
      obtain ⟨rfl, rfl⟩ := x_p2 h
      exact q_ret rfl rfl
    · rw [if_neg hc8] at h
      refine q_if rfl (fun _ => ?_) (fun c => absurd hc8 (of_decide_eq_false c))
      refine q_go 1 (pc' := 25) (ls' := [.ref 96, .int a0, .int a1]) (st' := [.int a1]) (V' := V6) rfl ?_
      by_cases hc9 : a1 = 0
      · rw [if_pos hc9] at h
        refine q_if rfl (fun c => absurd hc9 (of_decide_eq_true c)) (fun _ => ?_)
        refine q_go 3 (pc' := 33) (ls' := [.ref 96, .int a0, .int a1]) (st' := [.int a0, .ref 99]) (V' := V6) rfl ?_
        refine x_em (p := x_in a0 6 = true) (fun hz => by rw [if_neg hz] at h; cases h) (fun hc15 => ?_)
        rw [if_pos hc15] at h
        refine q_ald (Or.inl ⟨rfl, rfl⟩) rfl hc15 ?_
        refine q_go 1 (pc' := 80) (ls' := [.ref 96, .int a0, .int a1]) (st' := [.int (V6 99 (a0.toNatClampNeg))]) (V' := V6) rfl ?_
        obtain ⟨rfl, rfl⟩ := x_p2 h
        exact q_ret rfl rfl
      · rw [if_neg hc9] at h
        refine q_if rfl (fun _ => ?_) (fun c => absurd hc9 (of_decide_eq_false c))
        refine q_go 2 (pc' := 39) (ls' := [.ref 96, .int a0, .int a1]) (st' := [.int (1 : Int32), .int a1]) (V' := V6) rfl ?_
        by_cases hc10 : a1 = (1 : Int32)
        · rw [if_pos hc10] at h
          refine q_icmp rfl (fun c => absurd hc10 (of_decide_eq_true c)) (fun _ => ?_)
          refine q_go 5 (pc' := 50) (ls' := [.ref 96, .int a0, .int a1]) (st' := [.int ((8 : Int32) + a0), .ref 103]) (V' := V6) rfl ?_
          refine x_em (p := x_in ((8 : Int32) + a0) 27 = true) (fun hz => by rw [if_neg hz] at h; cases h) (fun hc14 => ?_)
          rw [if_pos hc14] at h
          refine q_ald (Or.inl ⟨rfl, rfl⟩) rfl hc14 ?_
          refine q_go 1 (pc' := 80) (ls' := [.ref 96, .int a0, .int a1]) (st' := [.int (V6 103 (((8 : Int32) + a0).toNatClampNeg))]) (V' := V6) rfl ?_
          obtain ⟨rfl, rfl⟩ := x_p2 h
          exact q_ret rfl rfl
        · rw [if_neg hc10] at h
          refine q_icmp rfl (fun _ => ?_) (fun c => absurd hc10 (of_decide_eq_false c))
          refine q_go 2 (pc' := 56) (ls' := [.ref 96, .int a0, .int a1]) (st' := [.int (2 : Int32), .int a1]) (V' := V6) rfl ?_
          by_cases hc11 : a1 = (2 : Int32)
          · rw [if_pos hc11] at h
            refine q_icmp rfl (fun c => absurd hc11 (of_decide_eq_true c)) (fun _ => ?_)
            refine q_go 5 (pc' := 67) (ls' := [.ref 96, .int a0, .int a1]) (st' := [.int ((14 : Int32) + a0), .ref 103]) (V' := V6) rfl ?_
            refine x_em (p := x_in ((14 : Int32) + a0) 27 = true) (fun hz => by rw [if_neg hz] at h; cases h) (fun hc13 => ?_)
            rw [if_pos hc13] at h
            refine q_ald (Or.inl ⟨rfl, rfl⟩) rfl hc13 ?_
            refine q_go 1 (pc' := 80) (ls' := [.ref 96, .int a0, .int a1]) (st' := [.int (V6 103 (((14 : Int32) + a0).toNatClampNeg))]) (V' := V6) rfl ?_
            obtain ⟨rfl, rfl⟩ := x_p2 h
            exact q_ret rfl rfl
          · rw [if_neg hc11] at h
            refine q_icmp rfl (fun _ => ?_) (fun c => absurd hc11 (of_decide_eq_false c))
            refine q_go 5 (pc' := 79) (ls' := [.ref 96, .int a0, .int a1]) (st' := [.int ((20 : Int32) + a0), .ref 103]) (V' := V6) rfl ?_
            refine x_em (p := x_in ((20 : Int32) + a0) 27 = true) (fun hz => by rw [if_neg hz] at h; cases h) (fun hc12 => ?_)
            rw [if_pos hc12] at h
            refine q_ald (Or.inl ⟨rfl, rfl⟩) rfl hc12 ?_
            obtain ⟨rfl, rfl⟩ := x_p2 h
            exact q_ret rfl rfl
def f_X7_isSeason (a0 : Int32) (V : xV) : Option (Int32 × xV) := x_b2 (f_X7_in a0 (0 : Int32) ((V 96 9) - 1) V) (fun x3 V2 => if x3 = 0 ∨ x3 = 1 then some (x3, V2) else none)
theorem f_X7_isSeason_ok {a0 : Int32} {V W : xV} {x : Int32} (h : f_X7_isSeason a0 V = some (x, W)) : x_Rn (1) 113 [.ref 96, .int a0] V (some x) W := by
  refine ⟨2, kX7_isSeason, rfl, ?_⟩
  show x_Ex (1) kX7_isSeason 0 [.ref 96, .int a0] [] V (some x) W
  unfold f_X7_isSeason at h
  refine q_go 6 (pc' := 8) (ls' := [.ref 96, .int a0]) (st' := [.int ((V 96 9) - 1), .int (0 : Int32), .int a0]) (V' := V) rfl ?_
  obtain ⟨x3, V2, hc1, h⟩ := x_b2_eq h
  refine q_call (d := (0)) (as := [.int a0, .int (0 : Int32), .int ((V 96 9) - 1)]) (pc' := 11) (ls' := [.ref 96, .int a0]) (st' := []) (r1 := some x3) rfl rfl ((f_X7_in_ok hc1).up (by decide)) ?_
  refine x_em (p := x3 = 0 ∨ x3 = 1) (fun hz => by rw [if_neg hz] at h; cases h) (fun hc4 => ?_)
  rw [if_pos hc4] at h
  obtain ⟨rfl, rfl⟩ := x_p2 h
  exact q_retz rfl rfl hc4
def f_X7_light (a0 : Int32) (V : xV) : Option (Int32 × xV) := x_b2 (f_X7_isSeason a0 (x_up V 96 0 (0 : Int32))) (fun x3 V2 => if x3 = 0 then (some ((-1 : Int32), V2)) else (if x_in a0 4 = true then (some ((V2 98 (a0.toNatClampNeg)), V2)) else none))
theorem f_X7_light_ok {a0 : Int32} {V W : xV} {x : Int32} (h : f_X7_light a0 V = some (x, W)) : x_Rn (2) 116 [.ref 96, .int a0] V (some x) W := by
  refine ⟨2, kX7_light, rfl, ?_⟩
  show x_Ex (2) kX7_light 0 [.ref 96, .int a0] [] V (some x) W
  unfold f_X7_light at h
  refine q_go 5 (pc' := 7) (ls' := [.ref 96, .int a0]) (st' := [.int a0, .ref 96]) (V' := (x_up V 96 0 (0 : Int32))) rfl ?_
  obtain ⟨x3, V2, hc1, h⟩ := x_b2_eq h
  refine q_call (d := (1)) (as := [.ref 96, .int a0]) (pc' := 10) (ls' := [.ref 96, .int a0]) (st' := []) (r1 := some x3) rfl rfl ((f_X7_isSeason_ok hc1).up (by decide)) ?_
  by_cases hc4 : x3 = 0
  · rw [if_pos hc4] at h
    refine q_if rfl (fun _ => ?_) (fun c => absurd hc4 (of_decide_eq_false c))
    refine q_go 1 (pc' := 23) (ls' := [.ref 96, .int a0]) (st' := [.int (-1 : Int32)]) (V' := V2) rfl ?_
    obtain ⟨rfl, rfl⟩ := x_p2 h
    exact q_ret rfl rfl
  · rw [if_neg hc4] at h
    refine q_if rfl (fun c => absurd (of_decide_eq_true c) hc4) (fun _ => ?_)
    refine q_go 3 (pc' := 18) (ls' := [.ref 96, .int a0]) (st' := [.int a0, .ref 98]) (V' := V2) rfl ?_
    refine x_em (p := x_in a0 4 = true) (fun hz => by rw [if_neg hz] at h; cases h) (fun hc5 => ?_)
    rw [if_pos hc5] at h
    refine q_ald (Or.inl ⟨rfl, rfl⟩) rfl hc5 ?_
    refine q_go 1 (pc' := 23) (ls' := [.ref 96, .int a0]) (st' := [.int (V2 98 (a0.toNatClampNeg))]) (V' := V2) rfl ?_
    obtain ⟨rfl, rfl⟩ := x_p2 h
    exact q_ret rfl rfl
def f_X7_isCase (a0 : Int32) (V : xV) : Option (Int32 × xV) := x_b2 (f_X7_in a0 (0 : Int32) ((V 96 10) - 1) V) (fun x3 V2 => if x3 = 0 ∨ x3 = 1 then some (x3, V2) else none)
theorem f_X7_isCase_ok {a0 : Int32} {V W : xV} {x : Int32} (h : f_X7_isCase a0 V = some (x, W)) : x_Rn (1) 114 [.ref 96, .int a0] V (some x) W := by
  refine ⟨2, kX7_isCase, rfl, ?_⟩
  show x_Ex (1) kX7_isCase 0 [.ref 96, .int a0] [] V (some x) W
  unfold f_X7_isCase at h
  refine q_go 6 (pc' := 8) (ls' := [.ref 96, .int a0]) (st' := [.int ((V 96 10) - 1), .int (0 : Int32), .int a0]) (V' := V) rfl ?_
  obtain ⟨x3, V2, hc1, h⟩ := x_b2_eq h
  refine q_call (d := (0)) (as := [.int a0, .int (0 : Int32), .int ((V 96 10) - 1)]) (pc' := 11) (ls' := [.ref 96, .int a0]) (st' := []) (r1 := some x3) rfl rfl ((f_X7_in_ok hc1).up (by decide)) ?_
  refine x_em (p := x3 = 0 ∨ x3 = 1) (fun hz => by rw [if_neg hz] at h; cases h) (fun hc4 => ?_)
  rw [if_pos hc4] at h
  obtain ⟨rfl, rfl⟩ := x_p2 h
  exact q_retz rfl rfl hc4
def f_X7_down (a0 : Int32) (a1 : Int32) (V : xV) : Option (Int32 × xV) := x_b2 (f_X7_isSeason a0 (x_up V 96 0 (0 : Int32))) (fun x3 V2 => if x3 = 0 then (some ((-1 : Int32), V2)) else (x_b2 (f_X7_isCase a1 V2) (fun x7 V6 => if x7 = 0 then (some ((-1 : Int32), V6)) else (if x_in (((0 : Int32) + ((2 : Int32) * a0)) + a1) 27 = true then (some ((V6 103 ((((0 : Int32) + ((2 : Int32) * a0)) + a1).toNatClampNeg)), V6)) else none))))
theorem f_X7_down_ok {a0 : Int32} {a1 : Int32} {V W : xV} {x : Int32} (h : f_X7_down a0 a1 V = some (x, W)) : x_Rn (2) 117 [.ref 96, .int a0, .int a1] V (some x) W := by
  refine ⟨3, kX7_down, rfl, ?_⟩
  show x_Ex (2) kX7_down 0 [.ref 96, .int a0, .int a1] [] V (some x) W
  unfold f_X7_down at h
  refine q_go 5 (pc' := 7) (ls' := [.ref 96, .int a0, .int a1]) (st' := [.int a0, .ref 96]) (V' := (x_up V 96 0 (0 : Int32))) rfl ?_
  obtain ⟨x3, V2, hc1, h⟩ := x_b2_eq h
  refine q_call (d := (1)) (as := [.ref 96, .int a0]) (pc' := 10) (ls' := [.ref 96, .int a0, .int a1]) (st' := []) (r1 := some x3) rfl rfl ((f_X7_isSeason_ok hc1).up (by decide)) ?_
  by_cases hc4 : x3 = 0
  · rw [if_pos hc4] at h
    refine q_if rfl (fun _ => ?_) (fun c => absurd hc4 (of_decide_eq_false c))
    refine q_go 1 (pc' := 37) (ls' := [.ref 96, .int a0, .int a1]) (st' := [.int (-1 : Int32)]) (V' := V2) rfl ?_
    obtain ⟨rfl, rfl⟩ := x_p2 h
    exact q_ret rfl rfl
  · rw [if_neg hc4] at h
    refine q_if rfl (fun c => absurd (of_decide_eq_true c) hc4) (fun _ => ?_)
    refine q_go 2 (pc' := 15) (ls' := [.ref 96, .int a0, .int a1]) (st' := [.int a1, .ref 96]) (V' := V2) rfl ?_
    obtain ⟨x7, V6, hc5, h⟩ := x_b2_eq h
    refine q_call (d := (1)) (as := [.ref 96, .int a1]) (pc' := 18) (ls' := [.ref 96, .int a0, .int a1]) (st' := []) (r1 := some x7) rfl rfl ((f_X7_isCase_ok hc5).up (by decide)) ?_
    by_cases hc8 : x7 = 0
    · rw [if_pos hc8] at h
      refine q_if rfl (fun _ => ?_) (fun c => absurd hc8 (of_decide_eq_false c))
      refine q_go 1 (pc' := 37) (ls' := [.ref 96, .int a0, .int a1]) (st' := [.int (-1 : Int32)]) (V' := V6) rfl ?_
      obtain ⟨rfl, rfl⟩ := x_p2 h
      exact q_ret rfl rfl
    · rw [if_neg hc8] at h
      refine q_if rfl (fun c => absurd (of_decide_eq_true c) hc8) (fun _ => ?_)
      refine q_go 9 (pc' := 32) (ls' := [.ref 96, .int a0, .int a1]) (st' := [.int (((0 : Int32) + ((2 : Int32) * a0)) + a1), .ref 103]) (V' := V6) rfl ?_
      refine x_em (p := x_in (((0 : Int32) + ((2 : Int32) * a0)) + a1) 27 = true) (fun hz => by rw [if_neg hz] at h; cases h) (fun hc9 => ?_)
      rw [if_pos hc9] at h
      refine q_ald (Or.inl ⟨rfl, rfl⟩) rfl hc9 ?_
      refine q_go 1 (pc' := 37) (ls' := [.ref 96, .int a0, .int a1]) (st' := [.int (V6 103 ((((0 : Int32) + ((2 : Int32) * a0)) + a1).toNatClampNeg))]) (V' := V6) rfl ?_
      obtain ⟨rfl, rfl⟩ := x_p2 h
      exact q_ret rfl rfl
def f_X7_notes_L47 : Nat → (Int32 → xV → Option (xV)) → Int32 → xV → Option (xV)
  | 0, _, _, _ => none
  | n + 1, k, l1, V => if (27 : Int32) ≤ l1 then (k l1 V) else (if x_in l1 27 = true then (if x_in (((27 : Int32) * (V 96 23)) + l1) 270 = true then (f_X7_notes_L47 n k (l1 + (1 : Int32)) (x_up V 104 ((((27 : Int32) * (V 96 23)) + l1).toNatClampNeg) (V 103 (l1.toNatClampNeg)))) else none) else none)
theorem f_X7_notes_L47_ok {k : Int32 → xV → Option (xV)}  {W : xV} (hk : ∀ (l1 : Int32) (V : xV), k l1 V = some W → x_Ex (0) kX7_notes 79 [.ref 96, .int l1] [] V none W) : ∀ (n : Nat) (l1 : Int32) (V : xV), f_X7_notes_L47 n k l1 V = some W → x_Ex (0) kX7_notes 47 [.ref 96, .int l1] [] V none W := by
  intro n
  induction n with
  | zero => intro l1 V  h; cases h
  | succ n ih =>
    intro l1 V  h
    unfold f_X7_notes_L47 at h
    refine q_go 2 (pc' := 50) (ls' := [.ref 96, .int l1]) (st' := [.int (27 : Int32), .int l1]) (V' := V) rfl ?_
    by_cases hc2 : (27 : Int32) ≤ l1
    · rw [if_pos hc2] at h
      refine q_icmp rfl (fun _ => ?_) (fun c => absurd hc2 (of_decide_eq_false c))
      exact hk l1 V  h
    · rw [if_neg hc2] at h
      refine q_icmp rfl (fun c => absurd (of_decide_eq_true c) hc2) (fun _ => ?_)
      refine q_go 11 (pc' := 71) (ls' := [.ref 96, .int l1]) (st' := [.int l1, .ref 103, .int (((27 : Int32) * (V 96 23)) + l1), .ref 104]) (V' := V) rfl ?_
      refine x_em (p := x_in l1 27 = true) (fun hz => by rw [if_neg hz] at h; cases h) (fun hc3 => ?_)
      rw [if_pos hc3] at h
      refine q_ald (Or.inl ⟨rfl, rfl⟩) rfl hc3 ?_
      refine x_em (p := x_in (((27 : Int32) * (V 96 23)) + l1) 270 = true) (fun hz => by rw [if_neg hz] at h; cases h) (fun hc4 => ?_)
      rw [if_pos hc4] at h
      refine q_ast rfl rfl hc4 ?_
      refine q_go 2 (pc' := 47) (ls' := [.ref 96, .int (l1 + (1 : Int32))]) (st' := []) (V' := (x_up V 104 ((((27 : Int32) * (V 96 23)) + l1).toNatClampNeg) (V 103 (l1.toNatClampNeg)))) rfl ?_
      exact ih (l1 + (1 : Int32)) (x_up V 104 ((((27 : Int32) * (V 96 23)) + l1).toNatClampNeg) (V 103 (l1.toNatClampNeg)))  h
def f_X7_notes_L11 : Nat → (Int32 → xV → Option (xV)) → Int32 → xV → Option (xV)
  | 0, _, _, _ => none
  | n + 1, k, l1, V => if (243 : Int32) ≤ l1 then (k l1 V) else (if x_in (l1 + 27) 270 = true then (if x_in l1 270 = true then (f_X7_notes_L11 n k (l1 + (1 : Int32)) (x_up V 104 (l1.toNatClampNeg) (V 104 ((l1 + 27).toNatClampNeg)))) else none) else none)
theorem f_X7_notes_L11_ok {k : Int32 → xV → Option (xV)}  {W : xV} (hk : ∀ (l1 : Int32) (V : xV), k l1 V = some W → x_Ex (0) kX7_notes 39 [.ref 96, .int l1] [] V none W) : ∀ (n : Nat) (l1 : Int32) (V : xV), f_X7_notes_L11 n k l1 V = some W → x_Ex (0) kX7_notes 11 [.ref 96, .int l1] [] V none W := by
  intro n
  induction n with
  | zero => intro l1 V  h; cases h
  | succ n ih =>
    intro l1 V  h
    unfold f_X7_notes_L11 at h
    refine q_go 2 (pc' := 15) (ls' := [.ref 96, .int l1]) (st' := [.int (243 : Int32), .int l1]) (V' := V) rfl ?_
    by_cases hc7 : (243 : Int32) ≤ l1
    · rw [if_pos hc7] at h
      refine q_icmp rfl (fun _ => ?_) (fun c => absurd hc7 (of_decide_eq_false c))
      exact hk l1 V  h
    · rw [if_neg hc7] at h
      refine q_icmp rfl (fun c => absurd (of_decide_eq_true c) hc7) (fun _ => ?_)
      refine q_go 8 (pc' := 31) (ls' := [.ref 96, .int l1]) (st' := [.int (l1 + 27), .ref 104, .int l1, .ref 104]) (V' := V) rfl ?_
      refine x_em (p := x_in (l1 + 27) 270 = true) (fun hz => by rw [if_neg hz] at h; cases h) (fun hc8 => ?_)
      rw [if_pos hc8] at h
      refine q_ald (Or.inl ⟨rfl, rfl⟩) rfl hc8 ?_
      refine x_em (p := x_in l1 270 = true) (fun hz => by rw [if_neg hz] at h; cases h) (fun hc9 => ?_)
      rw [if_pos hc9] at h
      refine q_ast rfl rfl hc9 ?_
      refine q_go 2 (pc' := 11) (ls' := [.ref 96, .int (l1 + (1 : Int32))]) (st' := []) (V' := (x_up V 104 (l1.toNatClampNeg) (V 104 ((l1 + 27).toNatClampNeg)))) rfl ?_
      exact ih (l1 + (1 : Int32)) (x_up V 104 (l1.toNatClampNeg) (V 104 ((l1 + 27).toNatClampNeg)))  h
def f_X7_notes (V : xV) : Option (xV) := if (V 96 23) = (10 : Int32) then (f_X7_notes_L11 300 (fun l1_10 V11 => f_X7_notes_L47 300 (fun l1_12 V13 => some (x_up V13 96 23 ((V13 96 23) + 1))) (0 : Int32) (x_up V11 96 23 (9 : Int32))) (0 : Int32) V) else (f_X7_notes_L47 300 (fun l1_5 V6 => some (x_up V6 96 23 ((V6 96 23) + 1))) (0 : Int32) V)
theorem f_X7_notes_ok {V W : xV}  (h : f_X7_notes V = some W) : x_Rn (0) 118 [.ref 96] V none W := by
  refine ⟨2, kX7_notes, rfl, ?_⟩
  show x_Ex (0) kX7_notes 0 [.ref 96, .long 0] [] V none W
  unfold f_X7_notes at h
  refine q_go 3 (pc' := 6) (ls' := [.ref 96, .long 0]) (st' := [.int (10 : Int32), .int (V 96 23)]) (V' := V) rfl ?_
  by_cases hc1 : (V 96 23) = (10 : Int32)
  · rw [if_pos hc1] at h
    refine q_icmp rfl (fun c => absurd hc1 (of_decide_eq_true c)) (fun _ => ?_)
    refine q_go 2 (pc' := 11) (ls' := [.ref 96, .int (0 : Int32)]) (st' := []) (V' := V) rfl ?_
    refine f_X7_notes_L11_ok (fun l1_10 V11 h => ?_) 300 (0 : Int32) V  h
    refine q_go 5 (pc' := 47) (ls' := [.ref 96, .int (0 : Int32)]) (st' := []) (V' := (x_up V11 96 23 (9 : Int32))) rfl ?_
    refine f_X7_notes_L47_ok (fun l1_12 V13 h => ?_) 300 (0 : Int32) (x_up V11 96 23 (9 : Int32))  h
    refine q_go 6 (pc' := 89) (ls' := [.ref 96, .int l1_12]) (st' := []) (V' := (x_up V13 96 23 ((V13 96 23) + 1))) rfl ?_
    obtain rfl := Option.some.inj h
    exact q_ret rfl rfl
  · rw [if_neg hc1] at h
    refine q_icmp rfl (fun _ => ?_) (fun c => absurd hc1 (of_decide_eq_false c))
    refine q_go 2 (pc' := 47) (ls' := [.ref 96, .int (0 : Int32)]) (st' := []) (V' := V) rfl ?_
    refine f_X7_notes_L47_ok (fun l1_5 V6 h => ?_) 300 (0 : Int32) V  h
    refine q_go 6 (pc' := 89) (ls' := [.ref 96, .int l1_5]) (st' := []) (V' := (x_up V6 96 23 ((V6 96 23) + 1))) rfl ?_
    obtain rfl := Option.some.inj h
    exact q_ret rfl rfl
def f_X7_sets_J60 (l1 : Int32) (l2 : Int32) (l3 : Int32) (l4 : Int32) (l5 : Int32) (V : xV) : Option (Int32 × xV) := if x_in l4 27 = true then (if (V 103 (l4.toNatClampNeg)) = l5 then (some ((-2 : Int32), V)) else (x_b1 (f_X7_notes V) (fun V13 => some ((V 103 (l4.toNatClampNeg)), (x_up V13 103 (l4.toNatClampNeg) l5))))) else none
theorem f_X7_sets_J60_ok (l1 : Int32) (l2 : Int32) (l3 : Int32) (l4 : Int32) (l5 : Int32) (V : xV) (g6 : Value) {x : Int32} {W : xV} (h : f_X7_sets_J60 l1 l2 l3 l4 l5 V = some (x, W)) : x_Ex (2) kX7_sets 60 [.ref 96, .int l1, .int l2, .int l3, .int l4, .int l5, g6] [] V (some x) W := by
  unfold f_X7_sets_J60 at h
  refine q_go 3 (pc' := 66) (ls' := [.ref 96, .int l1, .int l2, .int l3, .int l4, .int l5, g6]) (st' := [.int l4, .ref 103]) (V' := V) rfl ?_
  refine x_em (p := x_in l4 27 = true) (fun hz => by rw [if_neg hz] at h; cases h) (fun hc10 => ?_)
  rw [if_pos hc10] at h
  refine q_ald (Or.inl ⟨rfl, rfl⟩) rfl hc10 ?_
  refine q_go 3 (pc' := 73) (ls' := [.ref 96, .int l1, .int l2, .int l3, .int l4, .int l5, .int (V 103 (l4.toNatClampNeg))]) (st' := [.int l5, .int (V 103 (l4.toNatClampNeg))]) (V' := V) rfl ?_
  by_cases hc11 : (V 103 (l4.toNatClampNeg)) = l5
  · rw [if_pos hc11] at h
    refine q_icmp rfl (fun c => absurd hc11 (of_decide_eq_true c)) (fun _ => ?_)
    refine q_go 1 (pc' := 78) (ls' := [.ref 96, .int l1, .int l2, .int l3, .int l4, .int l5, .int (V 103 (l4.toNatClampNeg))]) (st' := [.int (-2 : Int32)]) (V' := V) rfl ?_
    obtain ⟨rfl, rfl⟩ := x_p2 h
    exact q_ret rfl rfl
  · rw [if_neg hc11] at h
    refine q_icmp rfl (fun _ => ?_) (fun c => absurd hc11 (of_decide_eq_false c))
    refine q_go 1 (pc' := 80) (ls' := [.ref 96, .int l1, .int l2, .int l3, .int l4, .int l5, .int (V 103 (l4.toNatClampNeg))]) (st' := [.ref 96]) (V' := V) rfl ?_
    obtain ⟨V13, hc12, h⟩ := x_b1_eq h
    refine q_call (d := (1)) (as := [.ref 96]) (pc' := 83) (ls' := [.ref 96, .int l1, .int l2, .int l3, .int l4, .int l5, .int (V 103 (l4.toNatClampNeg))]) (st' := []) (r1 := none) rfl rfl ((f_X7_notes_ok hc12).up (by decide)) ?_
    refine q_go 4 (pc' := 91) (ls' := [.ref 96, .int l1, .int l2, .int l3, .int l4, .int l5, .int (V 103 (l4.toNatClampNeg))]) (st' := [.int l5, .int l4, .ref 103]) (V' := V13) rfl ?_
    refine q_ast rfl rfl hc10 ?_
    refine q_go 1 (pc' := 94) (ls' := [.ref 96, .int l1, .int l2, .int l3, .int l4, .int l5, .int (V 103 (l4.toNatClampNeg))]) (st' := [.int (V 103 (l4.toNatClampNeg))]) (V' := (x_up V13 103 (l4.toNatClampNeg) l5)) rfl ?_
    obtain ⟨rfl, rfl⟩ := x_p2 h
    exact q_ret rfl rfl
def f_X7_sets (a0 : Int32) (a1 : Int32) (a2 : Int32) (V : xV) : Option (Int32 × xV) := x_b2 (f_X7_isSeason a0 (x_up V 96 0 (0 : Int32))) (fun x3 V2 => if x3 = 0 then (some ((-1 : Int32), V2)) else (x_b2 (f_X7_isCase a1 V2) (fun x7 V6 => if x7 = 0 then (some ((-1 : Int32), V6)) else (if a2 = (6 : Int32) then (f_X7_sets_J60 a0 a1 a2 (((0 : Int32) + ((2 : Int32) * a0)) + a1) (-9 : Int32) V6) else (x_b2 (f_X7_isThing a2 V6) (fun x16 V15 => if x16 = 0 then (some ((-1 : Int32), V15)) else (f_X7_sets_J60 a0 a1 a2 (((0 : Int32) + ((2 : Int32) * a0)) + a1) a2 V15)))))))
theorem f_X7_sets_ok {a0 : Int32} {a1 : Int32} {a2 : Int32} {V W : xV} {x : Int32} (h : f_X7_sets a0 a1 a2 V = some (x, W)) : x_Rn (2) 119 [.ref 96, .int a0, .int a1, .int a2] V (some x) W := by
  refine ⟨7, kX7_sets, rfl, ?_⟩
  show x_Ex (2) kX7_sets 0 [.ref 96, .int a0, .int a1, .int a2, .long 0, .long 0, .long 0] [] V (some x) W
  unfold f_X7_sets at h
  refine q_go 5 (pc' := 7) (ls' := [.ref 96, .int a0, .int a1, .int a2, .long 0, .long 0, .long 0]) (st' := [.int a0, .ref 96]) (V' := (x_up V 96 0 (0 : Int32))) rfl ?_
  obtain ⟨x3, V2, hc1, h⟩ := x_b2_eq h
  refine q_call (d := (1)) (as := [.ref 96, .int a0]) (pc' := 10) (ls' := [.ref 96, .int a0, .int a1, .int a2, .long 0, .long 0, .long 0]) (st' := []) (r1 := some x3) rfl rfl ((f_X7_isSeason_ok hc1).up (by decide)) ?_
  by_cases hc4 : x3 = 0
  · rw [if_pos hc4] at h
    refine q_if rfl (fun _ => ?_) (fun c => absurd hc4 (of_decide_eq_false c))
    refine q_go 1 (pc' := 36) (ls' := [.ref 96, .int a0, .int a1, .int a2, .long 0, .long 0, .long 0]) (st' := [.int (-1 : Int32)]) (V' := V2) rfl ?_
    obtain ⟨rfl, rfl⟩ := x_p2 h
    exact q_ret rfl rfl
  · rw [if_neg hc4] at h
    refine q_if rfl (fun c => absurd (of_decide_eq_true c) hc4) (fun _ => ?_)
    refine q_go 2 (pc' := 15) (ls' := [.ref 96, .int a0, .int a1, .int a2, .long 0, .long 0, .long 0]) (st' := [.int a1, .ref 96]) (V' := V2) rfl ?_
    obtain ⟨x7, V6, hc5, h⟩ := x_b2_eq h
    refine q_call (d := (1)) (as := [.ref 96, .int a1]) (pc' := 18) (ls' := [.ref 96, .int a0, .int a1, .int a2, .long 0, .long 0, .long 0]) (st' := []) (r1 := some x7) rfl rfl ((f_X7_isCase_ok hc5).up (by decide)) ?_
    by_cases hc8 : x7 = 0
    · rw [if_pos hc8] at h
      refine q_if rfl (fun _ => ?_) (fun c => absurd hc8 (of_decide_eq_false c))
      refine q_go 1 (pc' := 36) (ls' := [.ref 96, .int a0, .int a1, .int a2, .long 0, .long 0, .long 0]) (st' := [.int (-1 : Int32)]) (V' := V6) rfl ?_
      obtain ⟨rfl, rfl⟩ := x_p2 h
      exact q_ret rfl rfl
    · rw [if_neg hc8] at h
      refine q_if rfl (fun c => absurd (of_decide_eq_true c) hc8) (fun _ => ?_)
      refine q_go 2 (pc' := 24) (ls' := [.ref 96, .int a0, .int a1, .int a2, .long 0, .long 0, .long 0]) (st' := [.int (6 : Int32), .int a2]) (V' := V6) rfl ?_
      by_cases hc9 : a2 = (6 : Int32)
      · rw [if_pos hc9] at h
        refine q_icmp rfl (fun _ => ?_) (fun c => absurd hc9 (of_decide_eq_false c))
        refine q_go 10 (pc' := 49) (ls' := [.ref 96, .int a0, .int a1, .int a2, .int (((0 : Int32) + ((2 : Int32) * a0)) + a1), .long 0, .long 0]) (st' := [.int (6 : Int32), .int a2]) (V' := V6) rfl ?_
        refine q_icmp rfl (fun c => absurd hc9 (of_decide_eq_true c)) (fun _ => ?_)
        refine q_go 3 (pc' := 60) (ls' := [.ref 96, .int a0, .int a1, .int a2, .int (((0 : Int32) + ((2 : Int32) * a0)) + a1), .int (-9 : Int32), .long 0]) (st' := []) (V' := V6) rfl ?_
        exact f_X7_sets_J60_ok a0 a1 a2 (((0 : Int32) + ((2 : Int32) * a0)) + a1) (-9 : Int32) V6 (.long 0) h
      · rw [if_neg hc9] at h
        refine q_icmp rfl (fun c => absurd (of_decide_eq_true c) hc9) (fun _ => ?_)
        refine q_go 2 (pc' := 29) (ls' := [.ref 96, .int a0, .int a1, .int a2, .long 0, .long 0, .long 0]) (st' := [.int a2, .ref 96]) (V' := V6) rfl ?_
        obtain ⟨x16, V15, hc14, h⟩ := x_b2_eq h
        refine q_call (d := (1)) (as := [.ref 96, .int a2]) (pc' := 32) (ls' := [.ref 96, .int a0, .int a1, .int a2, .long 0, .long 0, .long 0]) (st' := []) (r1 := some x16) rfl rfl ((f_X7_isThing_ok hc14).up (by decide)) ?_
        by_cases hc17 : x16 = 0
        · rw [if_pos hc17] at h
          refine q_if rfl (fun c => absurd hc17 (of_decide_eq_true c)) (fun _ => ?_)
          refine q_go 1 (pc' := 36) (ls' := [.ref 96, .int a0, .int a1, .int a2, .long 0, .long 0, .long 0]) (st' := [.int (-1 : Int32)]) (V' := V15) rfl ?_
          obtain ⟨rfl, rfl⟩ := x_p2 h
          exact q_ret rfl rfl
        · rw [if_neg hc17] at h
          refine q_if rfl (fun _ => ?_) (fun c => absurd hc17 (of_decide_eq_false c))
          refine q_go 10 (pc' := 49) (ls' := [.ref 96, .int a0, .int a1, .int a2, .int (((0 : Int32) + ((2 : Int32) * a0)) + a1), .long 0, .long 0]) (st' := [.int (6 : Int32), .int a2]) (V' := V15) rfl ?_
          refine q_icmp rfl (fun _ => ?_) (fun c => absurd hc9 (of_decide_eq_false c))
          refine q_go 2 (pc' := 60) (ls' := [.ref 96, .int a0, .int a1, .int a2, .int (((0 : Int32) + ((2 : Int32) * a0)) + a1), .int a2, .long 0]) (st' := []) (V' := V15) rfl ?_
          exact f_X7_sets_J60_ok a0 a1 a2 (((0 : Int32) + ((2 : Int32) * a0)) + a1) a2 V15 (.long 0) h
def f_X7_lends_J84 (l1 : Int32) (l2 : Int32) (l3 : Int32) (l4 : Int32) (l5 : Int32) (l6 : Int32) (V : xV) : Option (Int32 × xV) := if x_in ((8 : Int32) + l1) 27 = true then (if (V 103 (((8 : Int32) + l1).toNatClampNeg)) = l5 then (if x_in ((14 : Int32) + l1) 27 = true then (if (V 103 (((14 : Int32) + l1).toNatClampNeg)) = l6 then (some ((-2 : Int32), V)) else (x_b1 (f_X7_notes V) (fun V18 => if (V18 103 (((8 : Int32) + l1).toNatClampNeg)) = (-9 : Int32) then (some ((-9 : Int32), (x_up (x_up V18 103 (((8 : Int32) + l1).toNatClampNeg) l5) 103 (((14 : Int32) + l1).toNatClampNeg) l6))) else (some ((((10 : Int32) * (V18 103 (((8 : Int32) + l1).toNatClampNeg))) + (V18 103 (((14 : Int32) + l1).toNatClampNeg))), (x_up (x_up V18 103 (((8 : Int32) + l1).toNatClampNeg) l5) 103 (((14 : Int32) + l1).toNatClampNeg) l6)))))) else none) else (x_b1 (f_X7_notes V) (fun V11 => if (V11 103 (((8 : Int32) + l1).toNatClampNeg)) = (-9 : Int32) then (if x_in ((14 : Int32) + l1) 27 = true then (some ((-9 : Int32), (x_up (x_up V11 103 (((8 : Int32) + l1).toNatClampNeg) l5) 103 (((14 : Int32) + l1).toNatClampNeg) l6))) else none) else (if x_in ((14 : Int32) + l1) 27 = true then (some ((((10 : Int32) * (V11 103 (((8 : Int32) + l1).toNatClampNeg))) + (V11 103 (((14 : Int32) + l1).toNatClampNeg))), (x_up (x_up V11 103 (((8 : Int32) + l1).toNatClampNeg) l5) 103 (((14 : Int32) + l1).toNatClampNeg) l6))) else none)))) else none
theorem f_X7_lends_J84_ok (l1 : Int32) (l2 : Int32) (l3 : Int32) (l4 : Int32) (l5 : Int32) (l6 : Int32) (V : xV) (g7 : Value) {x : Int32} {W : xV} (h : f_X7_lends_J84 l1 l2 l3 l4 l5 l6 V = some (x, W)) : x_Ex (2) kX7_lends 84 [.ref 96, .int l1, .int l2, .int l3, .int l4, .int l5, .int l6, g7] [] V (some x) W := by
  unfold f_X7_lends_J84 at h
  refine q_go 5 (pc' := 92) (ls' := [.ref 96, .int l1, .int l2, .int l3, .int l4, .int l5, .int l6, g7]) (st' := [.int ((8 : Int32) + l1), .ref 103]) (V' := V) rfl ?_
  refine x_em (p := x_in ((8 : Int32) + l1) 27 = true) (fun hz => by rw [if_neg hz] at h; cases h) (fun hc8 => ?_)
  rw [if_pos hc8] at h
  refine q_ald (Or.inl ⟨rfl, rfl⟩) rfl hc8 ?_
  refine q_go 1 (pc' := 95) (ls' := [.ref 96, .int l1, .int l2, .int l3, .int l4, .int l5, .int l6, g7]) (st' := [.int l5, .int (V 103 (((8 : Int32) + l1).toNatClampNeg))]) (V' := V) rfl ?_
  by_cases hc9 : (V 103 (((8 : Int32) + l1).toNatClampNeg)) = l5
  · rw [if_pos hc9] at h
    refine q_icmp rfl (fun c => absurd hc9 (of_decide_eq_true c)) (fun _ => ?_)
    refine q_go 5 (pc' := 106) (ls' := [.ref 96, .int l1, .int l2, .int l3, .int l4, .int l5, .int l6, g7]) (st' := [.int ((14 : Int32) + l1), .ref 103]) (V' := V) rfl ?_
    refine x_em (p := x_in ((14 : Int32) + l1) 27 = true) (fun hz => by rw [if_neg hz] at h; cases h) (fun hc15 => ?_)
    rw [if_pos hc15] at h
    refine q_ald (Or.inl ⟨rfl, rfl⟩) rfl hc15 ?_
    refine q_go 1 (pc' := 109) (ls' := [.ref 96, .int l1, .int l2, .int l3, .int l4, .int l5, .int l6, g7]) (st' := [.int l6, .int (V 103 (((14 : Int32) + l1).toNatClampNeg))]) (V' := V) rfl ?_
    by_cases hc16 : (V 103 (((14 : Int32) + l1).toNatClampNeg)) = l6
    · rw [if_pos hc16] at h
      refine q_icmp rfl (fun c => absurd hc16 (of_decide_eq_true c)) (fun _ => ?_)
      refine q_go 1 (pc' := 114) (ls' := [.ref 96, .int l1, .int l2, .int l3, .int l4, .int l5, .int l6, g7]) (st' := [.int (-2 : Int32)]) (V' := V) rfl ?_
      obtain ⟨rfl, rfl⟩ := x_p2 h
      exact q_ret rfl rfl
    · rw [if_neg hc16] at h
      refine q_icmp rfl (fun _ => ?_) (fun c => absurd hc16 (of_decide_eq_false c))
      refine q_go 1 (pc' := 116) (ls' := [.ref 96, .int l1, .int l2, .int l3, .int l4, .int l5, .int l6, g7]) (st' := [.ref 96]) (V' := V) rfl ?_
      obtain ⟨V18, hc17, h⟩ := x_b1_eq h
      refine q_call (d := (1)) (as := [.ref 96]) (pc' := 119) (ls' := [.ref 96, .int l1, .int l2, .int l3, .int l4, .int l5, .int l6, g7]) (st' := []) (r1 := none) rfl rfl ((f_X7_notes_ok hc17).up (by decide)) ?_
      refine q_go 5 (pc' := 127) (ls' := [.ref 96, .int l1, .int l2, .int l3, .int l4, .int l5, .int l6, g7]) (st' := [.int ((8 : Int32) + l1), .ref 103]) (V' := V18) rfl ?_
      refine q_ald (Or.inl ⟨rfl, rfl⟩) rfl hc8 ?_
      refine q_go 1 (pc' := 130) (ls' := [.ref 96, .int l1, .int l2, .int l3, .int l4, .int l5, .int l6, g7]) (st' := [.int (-9 : Int32), .int (V18 103 (((8 : Int32) + l1).toNatClampNeg))]) (V' := V18) rfl ?_
      by_cases hc19 : (V18 103 (((8 : Int32) + l1).toNatClampNeg)) = (-9 : Int32)
      · rw [if_pos hc19] at h
        refine q_icmp rfl (fun c => absurd hc19 (of_decide_eq_true c)) (fun _ => ?_)
        refine q_go 9 (pc' := 172) (ls' := [.ref 96, .int l1, .int l2, .int l3, .int l4, .int l5, .int l6, .int (-9 : Int32)]) (st' := [.int l5, .int ((8 : Int32) + l1), .ref 103]) (V' := V18) rfl ?_
        refine q_ast rfl rfl hc8 ?_
        refine q_go 6 (pc' := 183) (ls' := [.ref 96, .int l1, .int l2, .int l3, .int l4, .int l5, .int l6, .int (-9 : Int32)]) (st' := [.int l6, .int ((14 : Int32) + l1), .ref 103]) (V' := (x_up V18 103 (((8 : Int32) + l1).toNatClampNeg) l5)) rfl ?_
        refine q_ast rfl rfl hc15 ?_
        refine q_go 1 (pc' := 186) (ls' := [.ref 96, .int l1, .int l2, .int l3, .int l4, .int l5, .int l6, .int (-9 : Int32)]) (st' := [.int (-9 : Int32)]) (V' := (x_up (x_up V18 103 (((8 : Int32) + l1).toNatClampNeg) l5) 103 (((14 : Int32) + l1).toNatClampNeg) l6)) rfl ?_
        obtain ⟨rfl, rfl⟩ := x_p2 h
        exact q_ret rfl rfl
      · rw [if_neg hc19] at h
        refine q_icmp rfl (fun _ => ?_) (fun c => absurd hc19 (of_decide_eq_false c))
        refine q_go 6 (pc' := 148) (ls' := [.ref 96, .int l1, .int l2, .int l3, .int l4, .int l5, .int l6, g7]) (st' := [.int ((8 : Int32) + l1), .ref 103, .int (10 : Int32)]) (V' := V18) rfl ?_
        refine q_ald (Or.inl ⟨rfl, rfl⟩) rfl hc8 ?_
        refine q_go 6 (pc' := 158) (ls' := [.ref 96, .int l1, .int l2, .int l3, .int l4, .int l5, .int l6, g7]) (st' := [.int ((14 : Int32) + l1), .ref 103, .int ((10 : Int32) * (V18 103 (((8 : Int32) + l1).toNatClampNeg)))]) (V' := V18) rfl ?_
        refine q_ald (Or.inl ⟨rfl, rfl⟩) rfl hc15 ?_
        refine q_go 8 (pc' := 172) (ls' := [.ref 96, .int l1, .int l2, .int l3, .int l4, .int l5, .int l6, .int (((10 : Int32) * (V18 103 (((8 : Int32) + l1).toNatClampNeg))) + (V18 103 (((14 : Int32) + l1).toNatClampNeg)))]) (st' := [.int l5, .int ((8 : Int32) + l1), .ref 103]) (V' := V18) rfl ?_
        refine q_ast rfl rfl hc8 ?_
        refine q_go 6 (pc' := 183) (ls' := [.ref 96, .int l1, .int l2, .int l3, .int l4, .int l5, .int l6, .int (((10 : Int32) * (V18 103 (((8 : Int32) + l1).toNatClampNeg))) + (V18 103 (((14 : Int32) + l1).toNatClampNeg)))]) (st' := [.int l6, .int ((14 : Int32) + l1), .ref 103]) (V' := (x_up V18 103 (((8 : Int32) + l1).toNatClampNeg) l5)) rfl ?_
        refine q_ast rfl rfl hc15 ?_
        refine q_go 1 (pc' := 186) (ls' := [.ref 96, .int l1, .int l2, .int l3, .int l4, .int l5, .int l6, .int (((10 : Int32) * (V18 103 (((8 : Int32) + l1).toNatClampNeg))) + (V18 103 (((14 : Int32) + l1).toNatClampNeg)))]) (st' := [.int (((10 : Int32) * (V18 103 (((8 : Int32) + l1).toNatClampNeg))) + (V18 103 (((14 : Int32) + l1).toNatClampNeg)))]) (V' := (x_up (x_up V18 103 (((8 : Int32) + l1).toNatClampNeg) l5) 103 (((14 : Int32) + l1).toNatClampNeg) l6)) rfl ?_
        obtain ⟨rfl, rfl⟩ := x_p2 h
        exact q_ret rfl rfl
  · rw [if_neg hc9] at h
    refine q_icmp rfl (fun _ => ?_) (fun c => absurd hc9 (of_decide_eq_false c))
    refine q_go 1 (pc' := 116) (ls' := [.ref 96, .int l1, .int l2, .int l3, .int l4, .int l5, .int l6, g7]) (st' := [.ref 96]) (V' := V) rfl ?_
    obtain ⟨V11, hc10, h⟩ := x_b1_eq h
    refine q_call (d := (1)) (as := [.ref 96]) (pc' := 119) (ls' := [.ref 96, .int l1, .int l2, .int l3, .int l4, .int l5, .int l6, g7]) (st' := []) (r1 := none) rfl rfl ((f_X7_notes_ok hc10).up (by decide)) ?_
    refine q_go 5 (pc' := 127) (ls' := [.ref 96, .int l1, .int l2, .int l3, .int l4, .int l5, .int l6, g7]) (st' := [.int ((8 : Int32) + l1), .ref 103]) (V' := V11) rfl ?_
    refine q_ald (Or.inl ⟨rfl, rfl⟩) rfl hc8 ?_
    refine q_go 1 (pc' := 130) (ls' := [.ref 96, .int l1, .int l2, .int l3, .int l4, .int l5, .int l6, g7]) (st' := [.int (-9 : Int32), .int (V11 103 (((8 : Int32) + l1).toNatClampNeg))]) (V' := V11) rfl ?_
    by_cases hc12 : (V11 103 (((8 : Int32) + l1).toNatClampNeg)) = (-9 : Int32)
    · rw [if_pos hc12] at h
      refine q_icmp rfl (fun c => absurd hc12 (of_decide_eq_true c)) (fun _ => ?_)
      refine q_go 9 (pc' := 172) (ls' := [.ref 96, .int l1, .int l2, .int l3, .int l4, .int l5, .int l6, .int (-9 : Int32)]) (st' := [.int l5, .int ((8 : Int32) + l1), .ref 103]) (V' := V11) rfl ?_
      refine q_ast rfl rfl hc8 ?_
      refine q_go 6 (pc' := 183) (ls' := [.ref 96, .int l1, .int l2, .int l3, .int l4, .int l5, .int l6, .int (-9 : Int32)]) (st' := [.int l6, .int ((14 : Int32) + l1), .ref 103]) (V' := (x_up V11 103 (((8 : Int32) + l1).toNatClampNeg) l5)) rfl ?_
      refine x_em (p := x_in ((14 : Int32) + l1) 27 = true) (fun hz => by rw [if_neg hz] at h; cases h) (fun hc14 => ?_)
      rw [if_pos hc14] at h
      refine q_ast rfl rfl hc14 ?_
      refine q_go 1 (pc' := 186) (ls' := [.ref 96, .int l1, .int l2, .int l3, .int l4, .int l5, .int l6, .int (-9 : Int32)]) (st' := [.int (-9 : Int32)]) (V' := (x_up (x_up V11 103 (((8 : Int32) + l1).toNatClampNeg) l5) 103 (((14 : Int32) + l1).toNatClampNeg) l6)) rfl ?_
      obtain ⟨rfl, rfl⟩ := x_p2 h
      exact q_ret rfl rfl
    · rw [if_neg hc12] at h
      refine q_icmp rfl (fun _ => ?_) (fun c => absurd hc12 (of_decide_eq_false c))
      refine q_go 6 (pc' := 148) (ls' := [.ref 96, .int l1, .int l2, .int l3, .int l4, .int l5, .int l6, g7]) (st' := [.int ((8 : Int32) + l1), .ref 103, .int (10 : Int32)]) (V' := V11) rfl ?_
      refine q_ald (Or.inl ⟨rfl, rfl⟩) rfl hc8 ?_
      refine q_go 6 (pc' := 158) (ls' := [.ref 96, .int l1, .int l2, .int l3, .int l4, .int l5, .int l6, g7]) (st' := [.int ((14 : Int32) + l1), .ref 103, .int ((10 : Int32) * (V11 103 (((8 : Int32) + l1).toNatClampNeg)))]) (V' := V11) rfl ?_
      refine x_em (p := x_in ((14 : Int32) + l1) 27 = true) (fun hz => by rw [if_neg hz] at h; cases h) (fun hc13 => ?_)
      rw [if_pos hc13] at h
      refine q_ald (Or.inl ⟨rfl, rfl⟩) rfl hc13 ?_
      refine q_go 8 (pc' := 172) (ls' := [.ref 96, .int l1, .int l2, .int l3, .int l4, .int l5, .int l6, .int (((10 : Int32) * (V11 103 (((8 : Int32) + l1).toNatClampNeg))) + (V11 103 (((14 : Int32) + l1).toNatClampNeg)))]) (st' := [.int l5, .int ((8 : Int32) + l1), .ref 103]) (V' := V11) rfl ?_
      refine q_ast rfl rfl hc8 ?_
      refine q_go 6 (pc' := 183) (ls' := [.ref 96, .int l1, .int l2, .int l3, .int l4, .int l5, .int l6, .int (((10 : Int32) * (V11 103 (((8 : Int32) + l1).toNatClampNeg))) + (V11 103 (((14 : Int32) + l1).toNatClampNeg)))]) (st' := [.int l6, .int ((14 : Int32) + l1), .ref 103]) (V' := (x_up V11 103 (((8 : Int32) + l1).toNatClampNeg) l5)) rfl ?_
      refine q_ast rfl rfl hc13 ?_
      refine q_go 1 (pc' := 186) (ls' := [.ref 96, .int l1, .int l2, .int l3, .int l4, .int l5, .int l6, .int (((10 : Int32) * (V11 103 (((8 : Int32) + l1).toNatClampNeg))) + (V11 103 (((14 : Int32) + l1).toNatClampNeg)))]) (st' := [.int (((10 : Int32) * (V11 103 (((8 : Int32) + l1).toNatClampNeg))) + (V11 103 (((14 : Int32) + l1).toNatClampNeg)))]) (V' := (x_up (x_up V11 103 (((8 : Int32) + l1).toNatClampNeg) l5) 103 (((14 : Int32) + l1).toNatClampNeg) l6)) rfl ?_
      obtain ⟨rfl, rfl⟩ := x_p2 h
      exact q_ret rfl rfl
def f_X7_lends_J71 (l1 : Int32) (l2 : Int32) (l3 : Int32) (l4 : Int32) (l5 : Int32) (V : xV) : Option (Int32 × xV) := if l4 = 0 then (f_X7_lends_J84 l1 l2 l3 l4 l5 l3 V) else (f_X7_lends_J84 l1 l2 l3 l4 l5 (-9 : Int32) V)
theorem f_X7_lends_J71_ok (l1 : Int32) (l2 : Int32) (l3 : Int32) (l4 : Int32) (l5 : Int32) (V : xV) (g6 : Value) (g7 : Value) {x : Int32} {W : xV} (h : f_X7_lends_J71 l1 l2 l3 l4 l5 V = some (x, W)) : x_Ex (2) kX7_lends 71 [.ref 96, .int l1, .int l2, .int l3, .int l4, .int l5, g6, g7] [] V (some x) W := by
  unfold f_X7_lends_J71 at h
  refine q_go 1 (pc' := 73) (ls' := [.ref 96, .int l1, .int l2, .int l3, .int l4, .int l5, g6, g7]) (st' := [.int l4]) (V' := V) rfl ?_
  by_cases hc7 : l4 = 0
  · rw [if_pos hc7] at h
    refine q_if rfl (fun _ => ?_) (fun c => absurd hc7 (of_decide_eq_false c))
    refine q_go 2 (pc' := 84) (ls' := [.ref 96, .int l1, .int l2, .int l3, .int l4, .int l5, .int l3, g7]) (st' := []) (V' := V) rfl ?_
    exact f_X7_lends_J84_ok l1 l2 l3 l4 l5 l3 V g7 h
  · rw [if_neg hc7] at h
    refine q_if rfl (fun c => absurd (of_decide_eq_true c) hc7) (fun _ => ?_)
    refine q_go 3 (pc' := 84) (ls' := [.ref 96, .int l1, .int l2, .int l3, .int l4, .int l5, .int (-9 : Int32), g7]) (st' := []) (V' := V) rfl ?_
    exact f_X7_lends_J84_ok l1 l2 l3 l4 l5 (-9 : Int32) V g7 h
def f_X7_lends_J21 (l1 : Int32) (l2 : Int32) (l3 : Int32) (l4 : Int32) (V : xV) : Option (Int32 × xV) := x_b2 (f_X7_isThing l1 V) (fun x4 V3 => if x4 = 0 then (some ((-1 : Int32), V3)) else (if l4 = 0 then (x_b2 (f_X7_isSeason l2 V3) (fun x22 V21 => if x22 = 0 then (some ((-1 : Int32), V21)) else (x_b2 (f_X7_in l3 l2 ((V21 96 9) - 1) V21) (fun x26 V25 => if x26 = 0 then (some ((-1 : Int32), V25)) else (f_X7_lends_J71 l1 l2 l3 l4 l2 V25))))) else (f_X7_lends_J71 l1 l2 l3 l4 (-9 : Int32) V3)))
theorem f_X7_lends_J21_ok (l1 : Int32) (l2 : Int32) (l3 : Int32) (l4 : Int32) (V : xV) (g5 : Value) (g6 : Value) (g7 : Value) {x : Int32} {W : xV} (h : f_X7_lends_J21 l1 l2 l3 l4 V = some (x, W)) : x_Ex (2) kX7_lends 21 [.ref 96, .int l1, .int l2, .int l3, .int l4, g5, g6, g7] [] V (some x) W := by
  unfold f_X7_lends_J21 at h
  refine q_go 2 (pc' := 23) (ls' := [.ref 96, .int l1, .int l2, .int l3, .int l4, g5, g6, g7]) (st' := [.int l1, .ref 96]) (V' := V) rfl ?_
  obtain ⟨x4, V3, hc2, h⟩ := x_b2_eq h
  refine q_call (d := (1)) (as := [.ref 96, .int l1]) (pc' := 26) (ls' := [.ref 96, .int l1, .int l2, .int l3, .int l4, g5, g6, g7]) (st' := []) (r1 := some x4) rfl rfl ((f_X7_isThing_ok hc2).up (by decide)) ?_
  by_cases hc5 : x4 = 0
  · rw [if_pos hc5] at h
    refine q_if rfl (fun _ => ?_) (fun c => absurd hc5 (of_decide_eq_false c))
    refine q_go 1 (pc' := 57) (ls' := [.ref 96, .int l1, .int l2, .int l3, .int l4, g5, g6, g7]) (st' := [.int (-1 : Int32)]) (V' := V3) rfl ?_
    obtain ⟨rfl, rfl⟩ := x_p2 h
    exact q_ret rfl rfl
  · rw [if_neg hc5] at h
    refine q_if rfl (fun c => absurd (of_decide_eq_true c) hc5) (fun _ => ?_)
    refine q_go 1 (pc' := 31) (ls' := [.ref 96, .int l1, .int l2, .int l3, .int l4, g5, g6, g7]) (st' := [.int l4]) (V' := V3) rfl ?_
    by_cases hc6 : l4 = 0
    · rw [if_pos hc6] at h
      refine q_if rfl (fun c => absurd hc6 (of_decide_eq_true c)) (fun _ => ?_)
      refine q_go 2 (pc' := 36) (ls' := [.ref 96, .int l1, .int l2, .int l3, .int l4, g5, g6, g7]) (st' := [.int l2, .ref 96]) (V' := V3) rfl ?_
      obtain ⟨x22, V21, hc20, h⟩ := x_b2_eq h
      refine q_call (d := (1)) (as := [.ref 96, .int l2]) (pc' := 39) (ls' := [.ref 96, .int l1, .int l2, .int l3, .int l4, g5, g6, g7]) (st' := []) (r1 := some x22) rfl rfl ((f_X7_isSeason_ok hc20).up (by decide)) ?_
      by_cases hc23 : x22 = 0
      · rw [if_pos hc23] at h
        refine q_if rfl (fun _ => ?_) (fun c => absurd hc23 (of_decide_eq_false c))
        refine q_go 1 (pc' := 57) (ls' := [.ref 96, .int l1, .int l2, .int l3, .int l4, g5, g6, g7]) (st' := [.int (-1 : Int32)]) (V' := V21) rfl ?_
        obtain ⟨rfl, rfl⟩ := x_p2 h
        exact q_ret rfl rfl
      · rw [if_neg hc23] at h
        refine q_if rfl (fun c => absurd (of_decide_eq_true c) hc23) (fun _ => ?_)
        refine q_go 6 (pc' := 50) (ls' := [.ref 96, .int l1, .int l2, .int l3, .int l4, g5, g6, g7]) (st' := [.int ((V21 96 9) - 1), .int l2, .int l3]) (V' := V21) rfl ?_
        obtain ⟨x26, V25, hc24, h⟩ := x_b2_eq h
        refine q_call (d := (1)) (as := [.int l3, .int l2, .int ((V21 96 9) - 1)]) (pc' := 53) (ls' := [.ref 96, .int l1, .int l2, .int l3, .int l4, g5, g6, g7]) (st' := []) (r1 := some x26) rfl rfl ((f_X7_in_ok hc24).up (by decide)) ?_
        by_cases hc27 : x26 = 0
        · rw [if_pos hc27] at h
          refine q_if rfl (fun c => absurd hc27 (of_decide_eq_true c)) (fun _ => ?_)
          refine q_go 1 (pc' := 57) (ls' := [.ref 96, .int l1, .int l2, .int l3, .int l4, g5, g6, g7]) (st' := [.int (-1 : Int32)]) (V' := V25) rfl ?_
          obtain ⟨rfl, rfl⟩ := x_p2 h
          exact q_ret rfl rfl
        · rw [if_neg hc27] at h
          refine q_if rfl (fun _ => ?_) (fun c => absurd hc27 (of_decide_eq_false c))
          refine q_go 1 (pc' := 60) (ls' := [.ref 96, .int l1, .int l2, .int l3, .int l4, g5, g6, g7]) (st' := [.int l4]) (V' := V25) rfl ?_
          refine q_if rfl (fun _ => ?_) (fun c => absurd hc6 (of_decide_eq_false c))
          refine q_go 2 (pc' := 71) (ls' := [.ref 96, .int l1, .int l2, .int l3, .int l4, .int l2, g6, g7]) (st' := []) (V' := V25) rfl ?_
          exact f_X7_lends_J71_ok l1 l2 l3 l4 l2 V25 g6 g7 h
    · rw [if_neg hc6] at h
      refine q_if rfl (fun _ => ?_) (fun c => absurd hc6 (of_decide_eq_false c))
      refine q_go 1 (pc' := 60) (ls' := [.ref 96, .int l1, .int l2, .int l3, .int l4, g5, g6, g7]) (st' := [.int l4]) (V' := V3) rfl ?_
      refine q_if rfl (fun c => absurd (of_decide_eq_true c) hc6) (fun _ => ?_)
      refine q_go 3 (pc' := 71) (ls' := [.ref 96, .int l1, .int l2, .int l3, .int l4, .int (-9 : Int32), g6, g7]) (st' := []) (V' := V3) rfl ?_
      exact f_X7_lends_J71_ok l1 l2 l3 l4 (-9 : Int32) V3 g6 g7 h
def f_X7_lends (a0 : Int32) (a1 : Int32) (a2 : Int32) (V : xV) : Option (Int32 × xV) := if a1 = (4 : Int32) then (if a2 = 0 then (f_X7_lends_J21 a0 a1 a2 (1 : Int32) (x_up V 96 0 (0 : Int32))) else (f_X7_lends_J21 a0 a1 a2 (0 : Int32) (x_up V 96 0 (0 : Int32)))) else (f_X7_lends_J21 a0 a1 a2 (0 : Int32) (x_up V 96 0 (0 : Int32)))
theorem f_X7_lends_ok {a0 : Int32} {a1 : Int32} {a2 : Int32} {V W : xV} {x : Int32} (h : f_X7_lends a0 a1 a2 V = some (x, W)) : x_Rn (2) 120 [.ref 96, .int a0, .int a1, .int a2] V (some x) W := by
  refine ⟨8, kX7_lends, rfl, ?_⟩
  show x_Ex (2) kX7_lends 0 [.ref 96, .int a0, .int a1, .int a2, .long 0, .long 0, .long 0, .long 0] [] V (some x) W
  unfold f_X7_lends at h
  refine q_go 5 (pc' := 7) (ls' := [.ref 96, .int a0, .int a1, .int a2, .long 0, .long 0, .long 0, .long 0]) (st' := [.int (4 : Int32), .int a1]) (V' := (x_up V 96 0 (0 : Int32))) rfl ?_
  by_cases hc1 : a1 = (4 : Int32)
  · rw [if_pos hc1] at h
    refine q_icmp rfl (fun c => absurd hc1 (of_decide_eq_true c)) (fun _ => ?_)
    refine q_go 1 (pc' := 11) (ls' := [.ref 96, .int a0, .int a1, .int a2, .long 0, .long 0, .long 0, .long 0]) (st' := [.int a2]) (V' := (x_up V 96 0 (0 : Int32))) rfl ?_
    by_cases hc28 : a2 = 0
    · rw [if_pos hc28] at h
      refine q_if rfl (fun c => absurd hc28 (of_decide_eq_true c)) (fun _ => ?_)
      refine q_go 3 (pc' := 21) (ls' := [.ref 96, .int a0, .int a1, .int a2, .int (1 : Int32), .long 0, .long 0, .long 0]) (st' := []) (V' := (x_up V 96 0 (0 : Int32))) rfl ?_
      exact f_X7_lends_J21_ok a0 a1 a2 (1 : Int32) (x_up V 96 0 (0 : Int32)) (.long 0) (.long 0) (.long 0) h
    · rw [if_neg hc28] at h
      refine q_if rfl (fun _ => ?_) (fun c => absurd hc28 (of_decide_eq_false c))
      refine q_go 2 (pc' := 21) (ls' := [.ref 96, .int a0, .int a1, .int a2, .int (0 : Int32), .long 0, .long 0, .long 0]) (st' := []) (V' := (x_up V 96 0 (0 : Int32))) rfl ?_
      exact f_X7_lends_J21_ok a0 a1 a2 (0 : Int32) (x_up V 96 0 (0 : Int32)) (.long 0) (.long 0) (.long 0) h
  · rw [if_neg hc1] at h
    refine q_icmp rfl (fun _ => ?_) (fun c => absurd hc1 (of_decide_eq_false c))
    refine q_go 2 (pc' := 21) (ls' := [.ref 96, .int a0, .int a1, .int a2, .int (0 : Int32), .long 0, .long 0, .long 0]) (st' := []) (V' := (x_up V 96 0 (0 : Int32))) rfl ?_
    exact f_X7_lends_J21_ok a0 a1 a2 (0 : Int32) (x_up V 96 0 (0 : Int32)) (.long 0) (.long 0) (.long 0) h
def f_X7_pairs (a0 : Int32) (a1 : Int32) (V : xV) : Option (Int32 × xV) := x_b2 (f_X7_isThing a0 (x_up V 96 0 (0 : Int32))) (fun x3 V2 => if x3 = 0 then (some ((-1 : Int32), V2)) else (x_b2 (f_X7_isThing a1 V2) (fun x7 V6 => if x7 = 0 then (some ((-1 : Int32), V6)) else (if a0 = a1 then (some ((-1 : Int32), V6)) else (x_b1 (f_X7_notes V6) (fun V11 => if x_in ((20 : Int32) + a0) 27 = true then (if x_in ((20 : Int32) + a1) 27 = true then (some (((((x_up (x_up V11 103 (((20 : Int32) + a0).toNatClampNeg) ((V11 103 (((20 : Int32) + a0).toNatClampNeg)) ^^^ ((1 : Int32) <<< (a1 &&& 31)))) 103 (((20 : Int32) + a1).toNatClampNeg) (((x_up V11 103 (((20 : Int32) + a0).toNatClampNeg) ((V11 103 (((20 : Int32) + a0).toNatClampNeg)) ^^^ ((1 : Int32) <<< (a1 &&& 31)))) 103 (((20 : Int32) + a1).toNatClampNeg)) ^^^ ((1 : Int32) <<< (a0 &&& 31)))) 103 (((20 : Int32) + a0).toNatClampNeg)) >>> (a1 &&& 31)) &&& 1), (x_up (x_up V11 103 (((20 : Int32) + a0).toNatClampNeg) ((V11 103 (((20 : Int32) + a0).toNatClampNeg)) ^^^ ((1 : Int32) <<< (a1 &&& 31)))) 103 (((20 : Int32) + a1).toNatClampNeg) (((x_up V11 103 (((20 : Int32) + a0).toNatClampNeg) ((V11 103 (((20 : Int32) + a0).toNatClampNeg)) ^^^ ((1 : Int32) <<< (a1 &&& 31)))) 103 (((20 : Int32) + a1).toNatClampNeg)) ^^^ ((1 : Int32) <<< (a0 &&& 31)))))) else none) else none))))))
theorem f_X7_pairs_ok {a0 : Int32} {a1 : Int32} {V W : xV} {x : Int32} (h : f_X7_pairs a0 a1 V = some (x, W)) : x_Rn (2) 121 [.ref 96, .int a0, .int a1] V (some x) W := by
  refine ⟨3, kX7_pairs, rfl, ?_⟩
  show x_Ex (2) kX7_pairs 0 [.ref 96, .int a0, .int a1] [] V (some x) W
  unfold f_X7_pairs at h
  refine q_go 5 (pc' := 7) (ls' := [.ref 96, .int a0, .int a1]) (st' := [.int a0, .ref 96]) (V' := (x_up V 96 0 (0 : Int32))) rfl ?_
  obtain ⟨x3, V2, hc1, h⟩ := x_b2_eq h
  refine q_call (d := (1)) (as := [.ref 96, .int a0]) (pc' := 10) (ls' := [.ref 96, .int a0, .int a1]) (st' := []) (r1 := some x3) rfl rfl ((f_X7_isThing_ok hc1).up (by decide)) ?_
  by_cases hc4 : x3 = 0
  · rw [if_pos hc4] at h
    refine q_if rfl (fun _ => ?_) (fun c => absurd hc4 (of_decide_eq_false c))
    refine q_go 1 (pc' := 27) (ls' := [.ref 96, .int a0, .int a1]) (st' := [.int (-1 : Int32)]) (V' := V2) rfl ?_
    obtain ⟨rfl, rfl⟩ := x_p2 h
    exact q_ret rfl rfl
  · rw [if_neg hc4] at h
    refine q_if rfl (fun c => absurd (of_decide_eq_true c) hc4) (fun _ => ?_)
    refine q_go 2 (pc' := 15) (ls' := [.ref 96, .int a0, .int a1]) (st' := [.int a1, .ref 96]) (V' := V2) rfl ?_
    obtain ⟨x7, V6, hc5, h⟩ := x_b2_eq h
    refine q_call (d := (1)) (as := [.ref 96, .int a1]) (pc' := 18) (ls' := [.ref 96, .int a0, .int a1]) (st' := []) (r1 := some x7) rfl rfl ((f_X7_isThing_ok hc5).up (by decide)) ?_
    by_cases hc8 : x7 = 0
    · rw [if_pos hc8] at h
      refine q_if rfl (fun _ => ?_) (fun c => absurd hc8 (of_decide_eq_false c))
      refine q_go 1 (pc' := 27) (ls' := [.ref 96, .int a0, .int a1]) (st' := [.int (-1 : Int32)]) (V' := V6) rfl ?_
      obtain ⟨rfl, rfl⟩ := x_p2 h
      exact q_ret rfl rfl
    · rw [if_neg hc8] at h
      refine q_if rfl (fun c => absurd (of_decide_eq_true c) hc8) (fun _ => ?_)
      refine q_go 2 (pc' := 23) (ls' := [.ref 96, .int a0, .int a1]) (st' := [.int a1, .int a0]) (V' := V6) rfl ?_
      by_cases hc9 : a0 = a1
      · rw [if_pos hc9] at h
        refine q_icmp rfl (fun c => absurd hc9 (of_decide_eq_true c)) (fun _ => ?_)
        refine q_go 1 (pc' := 27) (ls' := [.ref 96, .int a0, .int a1]) (st' := [.int (-1 : Int32)]) (V' := V6) rfl ?_
        obtain ⟨rfl, rfl⟩ := x_p2 h
        exact q_ret rfl rfl
      · rw [if_neg hc9] at h
        refine q_icmp rfl (fun _ => ?_) (fun c => absurd hc9 (of_decide_eq_false c))
        refine q_go 1 (pc' := 29) (ls' := [.ref 96, .int a0, .int a1]) (st' := [.ref 96]) (V' := V6) rfl ?_
        obtain ⟨V11, hc10, h⟩ := x_b1_eq h
        refine q_call (d := (1)) (as := [.ref 96]) (pc' := 32) (ls' := [.ref 96, .int a0, .int a1]) (st' := []) (r1 := none) rfl rfl ((f_X7_notes_ok hc10).up (by decide)) ?_
        refine q_go 6 (pc' := 41) (ls' := [.ref 96, .int a0, .int a1]) (st' := [.int ((20 : Int32) + a0), .ref 103, .int ((20 : Int32) + a0), .ref 103]) (V' := V11) rfl ?_
        refine x_em (p := x_in ((20 : Int32) + a0) 27 = true) (fun hz => by rw [if_neg hz] at h; cases h) (fun hc12 => ?_)
        rw [if_pos hc12] at h
        refine q_ald (Or.inl ⟨rfl, rfl⟩) rfl hc12 ?_
        refine q_go 4 (pc' := 46) (ls' := [.ref 96, .int a0, .int a1]) (st' := [.int ((V11 103 (((20 : Int32) + a0).toNatClampNeg)) ^^^ ((1 : Int32) <<< (a1 &&& 31))), .int ((20 : Int32) + a0), .ref 103]) (V' := V11) rfl ?_
        refine q_ast rfl rfl hc12 ?_
        refine q_go 6 (pc' := 56) (ls' := [.ref 96, .int a0, .int a1]) (st' := [.int ((20 : Int32) + a1), .ref 103, .int ((20 : Int32) + a1), .ref 103]) (V' := (x_up V11 103 (((20 : Int32) + a0).toNatClampNeg) ((V11 103 (((20 : Int32) + a0).toNatClampNeg)) ^^^ ((1 : Int32) <<< (a1 &&& 31))))) rfl ?_
        refine x_em (p := x_in ((20 : Int32) + a1) 27 = true) (fun hz => by rw [if_neg hz] at h; cases h) (fun hc13 => ?_)
        rw [if_pos hc13] at h
        refine q_ald (Or.inl ⟨rfl, rfl⟩) rfl hc13 ?_
        refine q_go 4 (pc' := 61) (ls' := [.ref 96, .int a0, .int a1]) (st' := [.int (((x_up V11 103 (((20 : Int32) + a0).toNatClampNeg) ((V11 103 (((20 : Int32) + a0).toNatClampNeg)) ^^^ ((1 : Int32) <<< (a1 &&& 31)))) 103 (((20 : Int32) + a1).toNatClampNeg)) ^^^ ((1 : Int32) <<< (a0 &&& 31))), .int ((20 : Int32) + a1), .ref 103]) (V' := (x_up V11 103 (((20 : Int32) + a0).toNatClampNeg) ((V11 103 (((20 : Int32) + a0).toNatClampNeg)) ^^^ ((1 : Int32) <<< (a1 &&& 31))))) rfl ?_
        refine q_ast rfl rfl hc13 ?_
        refine q_go 5 (pc' := 70) (ls' := [.ref 96, .int a0, .int a1]) (st' := [.int ((20 : Int32) + a0), .ref 103]) (V' := (x_up (x_up V11 103 (((20 : Int32) + a0).toNatClampNeg) ((V11 103 (((20 : Int32) + a0).toNatClampNeg)) ^^^ ((1 : Int32) <<< (a1 &&& 31)))) 103 (((20 : Int32) + a1).toNatClampNeg) (((x_up V11 103 (((20 : Int32) + a0).toNatClampNeg) ((V11 103 (((20 : Int32) + a0).toNatClampNeg)) ^^^ ((1 : Int32) <<< (a1 &&& 31)))) 103 (((20 : Int32) + a1).toNatClampNeg)) ^^^ ((1 : Int32) <<< (a0 &&& 31))))) rfl ?_
        refine q_ald (Or.inl ⟨rfl, rfl⟩) rfl hc12 ?_
        refine q_go 4 (pc' := 75) (ls' := [.ref 96, .int a0, .int a1]) (st' := [.int ((((x_up (x_up V11 103 (((20 : Int32) + a0).toNatClampNeg) ((V11 103 (((20 : Int32) + a0).toNatClampNeg)) ^^^ ((1 : Int32) <<< (a1 &&& 31)))) 103 (((20 : Int32) + a1).toNatClampNeg) (((x_up V11 103 (((20 : Int32) + a0).toNatClampNeg) ((V11 103 (((20 : Int32) + a0).toNatClampNeg)) ^^^ ((1 : Int32) <<< (a1 &&& 31)))) 103 (((20 : Int32) + a1).toNatClampNeg)) ^^^ ((1 : Int32) <<< (a0 &&& 31)))) 103 (((20 : Int32) + a0).toNatClampNeg)) >>> (a1 &&& 31)) &&& 1)]) (V' := (x_up (x_up V11 103 (((20 : Int32) + a0).toNatClampNeg) ((V11 103 (((20 : Int32) + a0).toNatClampNeg)) ^^^ ((1 : Int32) <<< (a1 &&& 31)))) 103 (((20 : Int32) + a1).toNatClampNeg) (((x_up V11 103 (((20 : Int32) + a0).toNatClampNeg) ((V11 103 (((20 : Int32) + a0).toNatClampNeg)) ^^^ ((1 : Int32) <<< (a1 &&& 31)))) 103 (((20 : Int32) + a1).toNatClampNeg)) ^^^ ((1 : Int32) <<< (a0 &&& 31))))) rfl ?_
        obtain ⟨rfl, rfl⟩ := x_p2 h
        exact q_ret rfl rfl
def f_X7_rules (a0 : Int32) (V : xV) : Option (Int32 × xV) := x_b2 (f_X7_in a0 (0 : Int32) (3 : Int32) (x_up V 96 0 (0 : Int32))) (fun x3 V2 => if x3 = 0 then (some ((-1 : Int32), V2)) else (x_b1 (f_X7_notes V2) (fun V6 => some (((((V6 103 26) ^^^ ((1 : Int32) <<< (a0 &&& 31))) >>> (a0 &&& 31)) &&& 1), (x_up V6 103 26 ((V6 103 26) ^^^ ((1 : Int32) <<< (a0 &&& 31))))))))
theorem f_X7_rules_ok {a0 : Int32} {V W : xV} {x : Int32} (h : f_X7_rules a0 V = some (x, W)) : x_Rn (1) 122 [.ref 96, .int a0] V (some x) W := by
  refine ⟨2, kX7_rules, rfl, ?_⟩
  show x_Ex (1) kX7_rules 0 [.ref 96, .int a0] [] V (some x) W
  unfold f_X7_rules at h
  refine q_go 6 (pc' := 8) (ls' := [.ref 96, .int a0]) (st' := [.int (3 : Int32), .int (0 : Int32), .int a0]) (V' := (x_up V 96 0 (0 : Int32))) rfl ?_
  obtain ⟨x3, V2, hc1, h⟩ := x_b2_eq h
  refine q_call (d := (0)) (as := [.int a0, .int (0 : Int32), .int (3 : Int32)]) (pc' := 11) (ls' := [.ref 96, .int a0]) (st' := []) (r1 := some x3) rfl rfl ((f_X7_in_ok hc1).up (by decide)) ?_
  by_cases hc4 : x3 = 0
  · rw [if_pos hc4] at h
    refine q_if rfl (fun c => absurd hc4 (of_decide_eq_true c)) (fun _ => ?_)
    refine q_go 1 (pc' := 15) (ls' := [.ref 96, .int a0]) (st' := [.int (-1 : Int32)]) (V' := V2) rfl ?_
    obtain ⟨rfl, rfl⟩ := x_p2 h
    exact q_ret rfl rfl
  · rw [if_neg hc4] at h
    refine q_if rfl (fun _ => ?_) (fun c => absurd hc4 (of_decide_eq_false c))
    refine q_go 1 (pc' := 17) (ls' := [.ref 96, .int a0]) (st' := [.ref 96]) (V' := V2) rfl ?_
    obtain ⟨V6, hc5, h⟩ := x_b1_eq h
    refine q_call (d := (0)) (as := [.ref 96]) (pc' := 20) (ls' := [.ref 96, .int a0]) (st' := []) (r1 := none) rfl rfl ((f_X7_notes_ok hc5).up (by decide)) ?_
    refine q_go 4 (pc' := 27) (ls' := [.ref 96, .int a0]) (st' := [.int (26 : Int32), .ref 103, .int (26 : Int32), .ref 103]) (V' := V6) rfl ?_
    refine q_ald (Or.inl ⟨rfl, rfl⟩) rfl rfl ?_
    refine q_go 4 (pc' := 32) (ls' := [.ref 96, .int a0]) (st' := [.int ((V6 103 26) ^^^ ((1 : Int32) <<< (a0 &&& 31))), .int (26 : Int32), .ref 103]) (V' := V6) rfl ?_
    refine q_ast rfl rfl rfl ?_
    refine q_go 3 (pc' := 39) (ls' := [.ref 96, .int a0]) (st' := [.int (26 : Int32), .ref 103]) (V' := (x_up V6 103 26 ((V6 103 26) ^^^ ((1 : Int32) <<< (a0 &&& 31))))) rfl ?_
    refine q_ald (Or.inl ⟨rfl, rfl⟩) rfl rfl ?_
    refine q_go 4 (pc' := 44) (ls' := [.ref 96, .int a0]) (st' := [.int ((((V6 103 26) ^^^ ((1 : Int32) <<< (a0 &&& 31))) >>> (a0 &&& 31)) &&& 1)]) (V' := (x_up V6 103 26 ((V6 103 26) ^^^ ((1 : Int32) <<< (a0 &&& 31))))) rfl ?_
    obtain ⟨rfl, rfl⟩ := x_p2 h
    exact q_ret rfl rfl
def f_X7_undo_L27 : Nat → (Int32 → xV → Option (Int32 × xV)) → Int32 → xV → Option (Int32 × xV)
  | 0, _, _, _ => none
  | n + 1, k, l1, V => if (27 : Int32) ≤ l1 then (k l1 V) else (if x_in (((27 : Int32) * (V 96 23)) + l1) 270 = true then (if x_in l1 27 = true then (f_X7_undo_L27 n k (l1 + (1 : Int32)) (x_up V 103 (l1.toNatClampNeg) (V 104 ((((27 : Int32) * (V 96 23)) + l1).toNatClampNeg)))) else none) else none)
theorem f_X7_undo_L27_ok {k : Int32 → xV → Option (Int32 × xV)} {x : Int32} {W : xV} (hk : ∀ (l1 : Int32) (V : xV), k l1 V = some (x, W) → x_Ex (0) kX7_undo 59 [.ref 96, .int l1] [] V (some x) W) : ∀ (n : Nat) (l1 : Int32) (V : xV), f_X7_undo_L27 n k l1 V = some (x, W) → x_Ex (0) kX7_undo 27 [.ref 96, .int l1] [] V (some x) W := by
  intro n
  induction n with
  | zero => intro l1 V  h; cases h
  | succ n ih =>
    intro l1 V  h
    unfold f_X7_undo_L27 at h
    refine q_go 2 (pc' := 30) (ls' := [.ref 96, .int l1]) (st' := [.int (27 : Int32), .int l1]) (V' := V) rfl ?_
    by_cases hc2 : (27 : Int32) ≤ l1
    · rw [if_pos hc2] at h
      refine q_icmp rfl (fun _ => ?_) (fun c => absurd hc2 (of_decide_eq_false c))
      exact hk l1 V  h
    · rw [if_neg hc2] at h
      refine q_icmp rfl (fun c => absurd (of_decide_eq_true c) hc2) (fun _ => ?_)
      refine q_go 11 (pc' := 51) (ls' := [.ref 96, .int l1]) (st' := [.int (((27 : Int32) * (V 96 23)) + l1), .ref 104, .int l1, .ref 103]) (V' := V) rfl ?_
      refine x_em (p := x_in (((27 : Int32) * (V 96 23)) + l1) 270 = true) (fun hz => by rw [if_neg hz] at h; cases h) (fun hc3 => ?_)
      rw [if_pos hc3] at h
      refine q_ald (Or.inl ⟨rfl, rfl⟩) rfl hc3 ?_
      refine x_em (p := x_in l1 27 = true) (fun hz => by rw [if_neg hz] at h; cases h) (fun hc4 => ?_)
      rw [if_pos hc4] at h
      refine q_ast rfl rfl hc4 ?_
      refine q_go 2 (pc' := 27) (ls' := [.ref 96, .int (l1 + (1 : Int32))]) (st' := []) (V' := (x_up V 103 (l1.toNatClampNeg) (V 104 ((((27 : Int32) * (V 96 23)) + l1).toNatClampNeg)))) rfl ?_
      exact ih (l1 + (1 : Int32)) (x_up V 103 (l1.toNatClampNeg) (V 104 ((((27 : Int32) * (V 96 23)) + l1).toNatClampNeg)))  h
def f_X7_undo (V : xV) : Option (Int32 × xV) := if (V 96 23) = 0 then (some ((-2 : Int32), (x_up V 96 0 (0 : Int32)))) else (f_X7_undo_L27 300 (fun l1_5 V6 => some ((V6 96 23), V6)) (0 : Int32) (x_up (x_up V 96 0 (0 : Int32)) 96 23 ((V 96 23) - 1)))
theorem f_X7_undo_ok {V W : xV} {x : Int32} (h : f_X7_undo V = some (x, W)) : x_Rn (0) 123 [.ref 96] V (some x) W := by
  refine ⟨2, kX7_undo, rfl, ?_⟩
  show x_Ex (0) kX7_undo 0 [.ref 96, .long 0] [] V (some x) W
  unfold f_X7_undo at h
  refine q_go 5 (pc' := 9) (ls' := [.ref 96, .long 0]) (st' := [.int (V 96 23)]) (V' := (x_up V 96 0 (0 : Int32))) rfl ?_
  by_cases hc1 : (V 96 23) = 0
  · rw [if_pos hc1] at h
    refine q_if rfl (fun c => absurd hc1 (of_decide_eq_true c)) (fun _ => ?_)
    refine q_go 1 (pc' := 14) (ls' := [.ref 96, .long 0]) (st' := [.int (-2 : Int32)]) (V' := (x_up V 96 0 (0 : Int32))) rfl ?_
    obtain ⟨rfl, rfl⟩ := x_p2 h
    exact q_ret rfl rfl
  · rw [if_neg hc1] at h
    refine q_if rfl (fun _ => ?_) (fun c => absurd hc1 (of_decide_eq_false c))
    refine q_go 8 (pc' := 27) (ls' := [.ref 96, .int (0 : Int32)]) (st' := []) (V' := (x_up (x_up V 96 0 (0 : Int32)) 96 23 ((V 96 23) - 1))) rfl ?_
    refine f_X7_undo_L27_ok (fun l1_5 V6 h => ?_) 300 (0 : Int32) (x_up (x_up V 96 0 (0 : Int32)) 96 23 ((V 96 23) - 1))  h
    refine q_go 2 (pc' := 63) (ls' := [.ref 96, .int l1_5]) (st' := [.int (V6 96 23)]) (V' := V6) rfl ?_
    obtain ⟨rfl, rfl⟩ := x_p2 h
    exact q_ret rfl rfl
def f_X7_isPlan (F : Nat) (V : xV) : Option (Int32 × xV) := x_b1 (f_X7_tries F (-1 : Int32) (0 : Int32) V) (fun V2 => if (99 : Int32) ≤ (V2 96 32) then (some ((0 : Int32), V2)) else (some ((1 : Int32), V2)))
theorem f_X7_isPlan_ok {F : Nat} {V W : xV} {x : Int32} (h : f_X7_isPlan F V = some (x, W)) : x_Rn (5) 130 [.ref 96] V (some x) W := by
  refine ⟨1, kX7_isPlan, rfl, ?_⟩
  show x_Ex (5) kX7_isPlan 0 [.ref 96] [] V (some x) W
  unfold f_X7_isPlan at h
  refine q_go 3 (pc' := 3) (ls' := [.ref 96]) (st' := [.int (0 : Int32), .int (-1 : Int32), .ref 96]) (V' := V) rfl ?_
  obtain ⟨V2, hc1, h⟩ := x_b1_eq h
  refine q_call (d := (4)) (as := [.ref 96, .int (-1 : Int32), .int (0 : Int32)]) (pc' := 6) (ls' := [.ref 96]) (st' := []) (r1 := none) rfl rfl ((f_X7_tries_ok hc1).up (by decide)) ?_
  refine q_go 3 (pc' := 12) (ls' := [.ref 96]) (st' := [.int (99 : Int32), .int (V2 96 32)]) (V' := V2) rfl ?_
  by_cases hc3 : (99 : Int32) ≤ (V2 96 32)
  · rw [if_pos hc3] at h
    refine q_icmp rfl (fun _ => ?_) (fun c => absurd hc3 (of_decide_eq_false c))
    refine q_go 1 (pc' := 20) (ls' := [.ref 96]) (st' := [.int (0 : Int32)]) (V' := V2) rfl ?_
    obtain ⟨rfl, rfl⟩ := x_p2 h
    exact q_ret rfl rfl
  · rw [if_neg hc3] at h
    refine q_icmp rfl (fun c => absurd (of_decide_eq_true c) hc3) (fun _ => ?_)
    refine q_go 2 (pc' := 20) (ls' := [.ref 96]) (st' := [.int (1 : Int32)]) (V' := V2) rfl ?_
    obtain ⟨rfl, rfl⟩ := x_p2 h
    exact q_ret rfl rfl
def f_X7_plan (F : Nat) (a0 : Int32) (a1 : Int32) (V : xV) : Option (Int32 × xV) := x_b2 (f_X7_isSeason a0 (x_up V 96 0 (0 : Int32))) (fun x3 V2 => if x3 = 0 then (some ((-1 : Int32), V2)) else (x_b2 (f_X7_isCase a1 V2) (fun x7 V6 => if x7 = 0 then (some ((-1 : Int32), V6)) else (x_b2 (f_X7_isPlan F V6) (fun x11 V10 => if x11 = 0 then (some ((-9 : Int32), V10)) else (if x_in (((V10 96 10) * a0) + a1) 8 = true then (some ((V10 111 ((((V10 96 10) * a0) + a1).toNatClampNeg)), V10)) else none))))))
theorem f_X7_plan_ok {F : Nat} {a0 : Int32} {a1 : Int32} {V W : xV} {x : Int32} (h : f_X7_plan F a0 a1 V = some (x, W)) : x_Rn (6) 131 [.ref 96, .int a0, .int a1] V (some x) W := by
  refine ⟨3, kX7_plan, rfl, ?_⟩
  show x_Ex (6) kX7_plan 0 [.ref 96, .int a0, .int a1] [] V (some x) W
  unfold f_X7_plan at h
  refine q_go 5 (pc' := 7) (ls' := [.ref 96, .int a0, .int a1]) (st' := [.int a0, .ref 96]) (V' := (x_up V 96 0 (0 : Int32))) rfl ?_
  obtain ⟨x3, V2, hc1, h⟩ := x_b2_eq h
  refine q_call (d := (5)) (as := [.ref 96, .int a0]) (pc' := 10) (ls' := [.ref 96, .int a0, .int a1]) (st' := []) (r1 := some x3) rfl rfl ((f_X7_isSeason_ok hc1).up (by decide)) ?_
  by_cases hc4 : x3 = 0
  · rw [if_pos hc4] at h
    refine q_if rfl (fun _ => ?_) (fun c => absurd hc4 (of_decide_eq_false c))
    refine q_go 1 (pc' := 22) (ls' := [.ref 96, .int a0, .int a1]) (st' := [.int (-1 : Int32)]) (V' := V2) rfl ?_
    obtain ⟨rfl, rfl⟩ := x_p2 h
    exact q_ret rfl rfl
  · rw [if_neg hc4] at h
    refine q_if rfl (fun c => absurd (of_decide_eq_true c) hc4) (fun _ => ?_)
    refine q_go 2 (pc' := 15) (ls' := [.ref 96, .int a0, .int a1]) (st' := [.int a1, .ref 96]) (V' := V2) rfl ?_
    obtain ⟨x7, V6, hc5, h⟩ := x_b2_eq h
    refine q_call (d := (5)) (as := [.ref 96, .int a1]) (pc' := 18) (ls' := [.ref 96, .int a0, .int a1]) (st' := []) (r1 := some x7) rfl rfl ((f_X7_isCase_ok hc5).up (by decide)) ?_
    by_cases hc8 : x7 = 0
    · rw [if_pos hc8] at h
      refine q_if rfl (fun c => absurd hc8 (of_decide_eq_true c)) (fun _ => ?_)
      refine q_go 1 (pc' := 22) (ls' := [.ref 96, .int a0, .int a1]) (st' := [.int (-1 : Int32)]) (V' := V6) rfl ?_
      obtain ⟨rfl, rfl⟩ := x_p2 h
      exact q_ret rfl rfl
    · rw [if_neg hc8] at h
      refine q_if rfl (fun _ => ?_) (fun c => absurd hc8 (of_decide_eq_false c))
      refine q_go 1 (pc' := 24) (ls' := [.ref 96, .int a0, .int a1]) (st' := [.ref 96]) (V' := V6) rfl ?_
      obtain ⟨x11, V10, hc9, h⟩ := x_b2_eq h
      refine q_call (d := (5)) (as := [.ref 96]) (pc' := 27) (ls' := [.ref 96, .int a0, .int a1]) (st' := []) (r1 := some x11) rfl rfl ((f_X7_isPlan_ok hc9).up (by decide)) ?_
      by_cases hc12 : x11 = 0
      · rw [if_pos hc12] at h
        refine q_if rfl (fun _ => ?_) (fun c => absurd hc12 (of_decide_eq_false c))
        refine q_go 1 (pc' := 48) (ls' := [.ref 96, .int a0, .int a1]) (st' := [.int (-9 : Int32)]) (V' := V10) rfl ?_
        obtain ⟨rfl, rfl⟩ := x_p2 h
        exact q_ret rfl rfl
      · rw [if_neg hc12] at h
        refine q_if rfl (fun c => absurd (of_decide_eq_true c) hc12) (fun _ => ?_)
        refine q_go 8 (pc' := 42) (ls' := [.ref 96, .int a0, .int a1]) (st' := [.int (((V10 96 10) * a0) + a1), .ref 111]) (V' := V10) rfl ?_
        refine x_em (p := x_in (((V10 96 10) * a0) + a1) 8 = true) (fun hz => by rw [if_neg hz] at h; cases h) (fun hc13 => ?_)
        rw [if_pos hc13] at h
        refine q_ald (Or.inl ⟨rfl, rfl⟩) rfl hc13 ?_
        refine q_go 1 (pc' := 48) (ls' := [.ref 96, .int a0, .int a1]) (st' := [.int (V10 111 ((((V10 96 10) * a0) + a1).toNatClampNeg))]) (V' := V10) rfl ?_
        obtain ⟨rfl, rfl⟩ := x_p2 h
        exact q_ret rfl rfl
def f_X7_cost (F : Nat) (a0 : Int32) (V : xV) : Option (Int32 × xV) := x_b2 (f_X7_in a0 (0 : Int32) (1 : Int32) (x_up V 96 0 (0 : Int32))) (fun x3 V2 => if x3 = 0 then (some ((-1 : Int32), V2)) else (x_b2 (f_X7_isPlan F V2) (fun x7 V6 => if x7 = 0 then (some ((-9 : Int32), V6)) else (if a0 = 0 then (some ((V6 96 32), V6)) else (some ((V6 96 33), V6))))))
theorem f_X7_cost_ok {F : Nat} {a0 : Int32} {V W : xV} {x : Int32} (h : f_X7_cost F a0 V = some (x, W)) : x_Rn (6) 132 [.ref 96, .int a0] V (some x) W := by
  refine ⟨2, kX7_cost, rfl, ?_⟩
  show x_Ex (6) kX7_cost 0 [.ref 96, .int a0] [] V (some x) W
  unfold f_X7_cost at h
  refine q_go 6 (pc' := 8) (ls' := [.ref 96, .int a0]) (st' := [.int (1 : Int32), .int (0 : Int32), .int a0]) (V' := (x_up V 96 0 (0 : Int32))) rfl ?_
  obtain ⟨x3, V2, hc1, h⟩ := x_b2_eq h
  refine q_call (d := (5)) (as := [.int a0, .int (0 : Int32), .int (1 : Int32)]) (pc' := 11) (ls' := [.ref 96, .int a0]) (st' := []) (r1 := some x3) rfl rfl ((f_X7_in_ok hc1).up (by decide)) ?_
  by_cases hc4 : x3 = 0
  · rw [if_pos hc4] at h
    refine q_if rfl (fun c => absurd hc4 (of_decide_eq_true c)) (fun _ => ?_)
    refine q_go 1 (pc' := 15) (ls' := [.ref 96, .int a0]) (st' := [.int (-1 : Int32)]) (V' := V2) rfl ?_
    obtain ⟨rfl, rfl⟩ := x_p2 h
    exact q_ret rfl rfl
  · rw [if_neg hc4] at h
    refine q_if rfl (fun _ => ?_) (fun c => absurd hc4 (of_decide_eq_false c))
    refine q_go 1 (pc' := 17) (ls' := [.ref 96, .int a0]) (st' := [.ref 96]) (V' := V2) rfl ?_
    obtain ⟨x7, V6, hc5, h⟩ := x_b2_eq h
    refine q_call (d := (5)) (as := [.ref 96]) (pc' := 20) (ls' := [.ref 96, .int a0]) (st' := []) (r1 := some x7) rfl rfl ((f_X7_isPlan_ok hc5).up (by decide)) ?_
    by_cases hc8 : x7 = 0
    · rw [if_pos hc8] at h
      refine q_if rfl (fun c => absurd hc8 (of_decide_eq_true c)) (fun _ => ?_)
      refine q_go 2 (pc' := 43) (ls' := [.ref 96, .int a0]) (st' := [.int (-9 : Int32)]) (V' := V6) rfl ?_
      obtain ⟨rfl, rfl⟩ := x_p2 h
      exact q_ret rfl rfl
    · rw [if_neg hc8] at h
      refine q_if rfl (fun _ => ?_) (fun c => absurd hc8 (of_decide_eq_false c))
      refine q_go 1 (pc' := 29) (ls' := [.ref 96, .int a0]) (st' := [.int a0]) (V' := V6) rfl ?_
      by_cases hc9 : a0 = 0
      · rw [if_pos hc9] at h
        refine q_if rfl (fun c => absurd hc9 (of_decide_eq_true c)) (fun _ => ?_)
        refine q_go 3 (pc' := 43) (ls' := [.ref 96, .int a0]) (st' := [.int (V6 96 32)]) (V' := V6) rfl ?_
        obtain ⟨rfl, rfl⟩ := x_p2 h
        exact q_ret rfl rfl
      · rw [if_neg hc9] at h
        refine q_if rfl (fun _ => ?_) (fun c => absurd hc9 (of_decide_eq_false c))
        refine q_go 2 (pc' := 43) (ls' := [.ref 96, .int a0]) (st' := [.int (V6 96 33)]) (V' := V6) rfl ?_
        obtain ⟨rfl, rfl⟩ := x_p2 h
        exact q_ret rfl rfl
def f_X7_seasonsOf_L4 (l1 : Int32) : Nat → (Int32 → Int32 → xV → Option (Int32 × xV)) → Int32 → Int32 → xV → Option (Int32 × xV)
  | 0, _, _, _, _ => none
  | n + 1, k, l2, l3, V => if ((V 96 9) * (V 96 10)) ≤ l3 then (k l2 l3 V) else (if x_in l3 8 = true then (if (V 111 (l3.toNatClampNeg)) = l1 then (if (V 96 10) = 0 then none else (f_X7_seasonsOf_L4 l1 n k (l2 ||| ((1 : Int32) <<< ((l3 / (V 96 10)) &&& 31))) (l3 + (1 : Int32)) V)) else (f_X7_seasonsOf_L4 l1 n k (l2 ||| 0) (l3 + (1 : Int32)) V)) else none)
theorem f_X7_seasonsOf_L4_ok (l1 : Int32) {k : Int32 → Int32 → xV → Option (Int32 × xV)} {x : Int32} {W : xV} (hk : ∀ (l2 : Int32) (l3 : Int32) (V : xV), k l2 l3 V = some (x, W) → x_Ex (0) kX7_seasonsOf 48 [.ref 96, .int l1, .int l2, .int l3] [] V (some x) W) : ∀ (n : Nat) (l2 : Int32) (l3 : Int32) (V : xV), f_X7_seasonsOf_L4 l1 n k l2 l3 V = some (x, W) → x_Ex (0) kX7_seasonsOf 4 [.ref 96, .int l1, .int l2, .int l3] [] V (some x) W := by
  intro n
  induction n with
  | zero => intro l2 l3 V  h; cases h
  | succ n ih =>
    intro l2 l3 V  h
    unfold f_X7_seasonsOf_L4 at h
    refine q_go 6 (pc' := 14) (ls' := [.ref 96, .int l1, .int l2, .int l3]) (st' := [.int ((V 96 9) * (V 96 10)), .int l3]) (V' := V) rfl ?_
    by_cases hc1 : ((V 96 9) * (V 96 10)) ≤ l3
    · rw [if_pos hc1] at h
      refine q_icmp rfl (fun _ => ?_) (fun c => absurd hc1 (of_decide_eq_false c))
      exact hk l2 l3 V  h
    · rw [if_neg hc1] at h
      refine q_icmp rfl (fun c => absurd (of_decide_eq_true c) hc1) (fun _ => ?_)
      refine q_go 4 (pc' := 23) (ls' := [.ref 96, .int l1, .int l2, .int l3]) (st' := [.int l3, .ref 111, .int l2]) (V' := V) rfl ?_
      refine x_em (p := x_in l3 8 = true) (fun hz => by rw [if_neg hz] at h; cases h) (fun hc2 => ?_)
      rw [if_pos hc2] at h
      refine q_ald (Or.inl ⟨rfl, rfl⟩) rfl hc2 ?_
      refine q_go 1 (pc' := 25) (ls' := [.ref 96, .int l1, .int l2, .int l3]) (st' := [.int l1, .int (V 111 (l3.toNatClampNeg)), .int l2]) (V' := V) rfl ?_
      by_cases hc3 : (V 111 (l3.toNatClampNeg)) = l1
      · rw [if_pos hc3] at h
        refine q_icmp rfl (fun c => absurd hc3 (of_decide_eq_true c)) (fun _ => ?_)
        refine q_go 4 (pc' := 34) (ls' := [.ref 96, .int l1, .int l2, .int l3]) (st' := [.int (V 96 10), .int l3, .int (1 : Int32), .int l2]) (V' := V) rfl ?_
        by_cases hc4 : (V 96 10) = 0
        · rw [if_pos hc4] at h; cases h
        rw [if_neg hc4] at h
        refine q_div rfl hc4 (Nat.le_of_ble_eq_true rfl) ?_
        refine q_go 6 (pc' := 4) (ls' := [.ref 96, .int l1, .int (l2 ||| ((1 : Int32) <<< ((l3 / (V 96 10)) &&& 31))), .int (l3 + (1 : Int32))]) (st' := []) (V' := V) rfl ?_
        exact ih (l2 ||| ((1 : Int32) <<< ((l3 / (V 96 10)) &&& 31))) (l3 + (1 : Int32)) V  h
      · rw [if_neg hc3] at h
        refine q_icmp rfl (fun _ => ?_) (fun c => absurd hc3 (of_decide_eq_false c))
        refine q_go 5 (pc' := 4) (ls' := [.ref 96, .int l1, .int (l2 ||| 0), .int (l3 + (1 : Int32))]) (st' := []) (V' := V) rfl ?_
        exact ih (l2 ||| 0) (l3 + (1 : Int32)) V  h
def f_X7_seasonsOf (a0 : Int32) (V : xV) : Option (Int32 × xV) := f_X7_seasonsOf_L4 a0 300 (fun l2_5 l3_6 V7 => some (l2_5, V7)) (0 : Int32) (0 : Int32) V
theorem f_X7_seasonsOf_ok {a0 : Int32} {V W : xV} {x : Int32} (h : f_X7_seasonsOf a0 V = some (x, W)) : x_Rn (0) 133 [.ref 96, .int a0] V (some x) W := by
  refine ⟨4, kX7_seasonsOf, rfl, ?_⟩
  show x_Ex (0) kX7_seasonsOf 0 [.ref 96, .int a0, .long 0, .long 0] [] V (some x) W
  unfold f_X7_seasonsOf at h
  refine q_go 4 (pc' := 4) (ls' := [.ref 96, .int a0, .int (0 : Int32), .int (0 : Int32)]) (st' := []) (V' := V) rfl ?_
  refine f_X7_seasonsOf_L4_ok a0 (fun l2_5 l3_6 V7 h => ?_) 300 (0 : Int32) (0 : Int32) V  h
  refine q_go 1 (pc' := 49) (ls' := [.ref 96, .int a0, .int l2_5, .int l3_6]) (st' := [.int l2_5]) (V' := V7) rfl ?_
  obtain ⟨rfl, rfl⟩ := x_p2 h
  exact q_ret rfl rfl
def f_X7_spent_L44 (F : Nat) (l1 : Int32) (l2 : Int32) (l3 : Int32) : Nat → (Int32 → Int32 → xV → Option (Int32 × xV)) → Int32 → Int32 → xV → Option (Int32 × xV)
  | 0, _, _, _, _ => none
  | n + 1, k, l4, l5, V => if (V 96 9) ≤ l5 then (k l4 l5 V) else (x_b2 (f_X7_has l3 l5 V) (fun x19 V18 => if x19 = 0 then (f_X7_spent_L44 F l1 l2 l3 n k (l4 + 0) (l5 + (1 : Int32)) V18) else (if x_in l5 4 = true then (f_X7_spent_L44 F l1 l2 l3 n k (l4 + (V18 98 (l5.toNatClampNeg))) (l5 + (1 : Int32)) V18) else none)))
theorem f_X7_spent_L44_ok (F : Nat) (l1 : Int32) (l2 : Int32) (l3 : Int32) {k : Int32 → Int32 → xV → Option (Int32 × xV)} {x : Int32} {W : xV} (hk : ∀ (l4 : Int32) (l5 : Int32) (V : xV), k l4 l5 V = some (x, W) → x_Ex (6) kX7_spent 84 [.ref 96, .int l1, .int l2, .int l3, .int l4, .int l5] [] V (some x) W) : ∀ (n : Nat) (l4 : Int32) (l5 : Int32) (V : xV), f_X7_spent_L44 F l1 l2 l3 n k l4 l5 V = some (x, W) → x_Ex (6) kX7_spent 44 [.ref 96, .int l1, .int l2, .int l3, .int l4, .int l5] [] V (some x) W := by
  intro n
  induction n with
  | zero => intro l4 l5 V  h; cases h
  | succ n ih =>
    intro l4 l5 V  h
    unfold f_X7_spent_L44 at h
    refine q_go 3 (pc' := 50) (ls' := [.ref 96, .int l1, .int l2, .int l3, .int l4, .int l5]) (st' := [.int (V 96 9), .int l5]) (V' := V) rfl ?_
    by_cases hc16 : (V 96 9) ≤ l5
    · rw [if_pos hc16] at h
      refine q_icmp rfl (fun _ => ?_) (fun c => absurd hc16 (of_decide_eq_false c))
      exact hk l4 l5 V  h
    · rw [if_neg hc16] at h
      refine q_icmp rfl (fun c => absurd (of_decide_eq_true c) hc16) (fun _ => ?_)
      refine q_go 3 (pc' := 58) (ls' := [.ref 96, .int l1, .int l2, .int l3, .int l4, .int l5]) (st' := [.int l5, .int l3, .int l4]) (V' := V) rfl ?_
      obtain ⟨x19, V18, hc17, h⟩ := x_b2_eq h
      refine q_call (d := (5)) (as := [.int l3, .int l5]) (pc' := 61) (ls' := [.ref 96, .int l1, .int l2, .int l3, .int l4, .int l5]) (st' := [.int l4]) (r1 := some x19) rfl rfl ((f_X7_has_ok hc17).up (by decide)) ?_
      by_cases hc20 : x19 = 0
      · rw [if_pos hc20] at h
        refine q_if rfl (fun _ => ?_) (fun c => absurd hc20 (of_decide_eq_false c))
        refine q_go 5 (pc' := 44) (ls' := [.ref 96, .int l1, .int l2, .int l3, .int (l4 + 0), .int (l5 + (1 : Int32))]) (st' := []) (V' := V18) rfl ?_
        exact ih (l4 + 0) (l5 + (1 : Int32)) V18  h
      · rw [if_neg hc20] at h
        refine q_if rfl (fun c => absurd (of_decide_eq_true c) hc20) (fun _ => ?_)
        refine q_go 3 (pc' := 70) (ls' := [.ref 96, .int l1, .int l2, .int l3, .int l4, .int l5]) (st' := [.int l5, .ref 98, .int l4]) (V' := V18) rfl ?_
        refine x_em (p := x_in l5 4 = true) (fun hz => by rw [if_neg hz] at h; cases h) (fun hc21 => ?_)
        rw [if_pos hc21] at h
        refine q_ald (Or.inl ⟨rfl, rfl⟩) rfl hc21 ?_
        refine q_go 5 (pc' := 44) (ls' := [.ref 96, .int l1, .int l2, .int l3, .int (l4 + (V18 98 (l5.toNatClampNeg))), .int (l5 + (1 : Int32))]) (st' := []) (V' := V18) rfl ?_
        exact ih (l4 + (V18 98 (l5.toNatClampNeg))) (l5 + (1 : Int32)) V18  h
def f_X7_spent (F : Nat) (a0 : Int32) (a1 : Int32) (V : xV) : Option (Int32 × xV) := x_b2 (f_X7_isThing a0 (x_up V 96 0 (0 : Int32))) (fun x3 V2 => if x3 = 0 then (some ((-1000000 : Int32), V2)) else (x_b2 (f_X7_in a1 (0 : Int32) (2 : Int32) V2) (fun x7 V6 => if x7 = 0 then (some ((-1000000 : Int32), V6)) else (x_b2 (f_X7_isPlan F V6) (fun x11 V10 => if x11 = 0 then (some ((-1000000 : Int32), V10)) else (x_b2 (f_X7_seasonsOf a0 V10) (fun x15 V14 => f_X7_spent_L44 F a0 a1 x15 300 (fun l4_22 l5_23 V24 => if a1 = 0 then (some (l4_22, V24)) else (if a1 = (1 : Int32) then (if x_in a0 6 = true then (some (((V24 99 (a0.toNatClampNeg)) - l4_22), V24)) else none) else (some (x15, V24)))) (0 : Int32) (0 : Int32) V14)))))))
theorem f_X7_spent_ok {F : Nat} {a0 : Int32} {a1 : Int32} {V W : xV} {x : Int32} (h : f_X7_spent F a0 a1 V = some (x, W)) : x_Rn (6) 134 [.ref 96, .int a0, .int a1] V (some x) W := by
  refine ⟨6, kX7_spent, rfl, ?_⟩
  show x_Ex (6) kX7_spent 0 [.ref 96, .int a0, .int a1, .long 0, .long 0, .long 0] [] V (some x) W
  unfold f_X7_spent at h
  refine q_go 5 (pc' := 7) (ls' := [.ref 96, .int a0, .int a1, .long 0, .long 0, .long 0]) (st' := [.int a0, .ref 96]) (V' := (x_up V 96 0 (0 : Int32))) rfl ?_
  obtain ⟨x3, V2, hc1, h⟩ := x_b2_eq h
  refine q_call (d := (5)) (as := [.ref 96, .int a0]) (pc' := 10) (ls' := [.ref 96, .int a0, .int a1, .long 0, .long 0, .long 0]) (st' := []) (r1 := some x3) rfl rfl ((f_X7_isThing_ok hc1).up (by decide)) ?_
  by_cases hc4 : x3 = 0
  · rw [if_pos hc4] at h
    refine q_if rfl (fun _ => ?_) (fun c => absurd hc4 (of_decide_eq_false c))
    refine q_go 1 (pc' := 31) (ls' := [.ref 96, .int a0, .int a1, .long 0, .long 0, .long 0]) (st' := [.int (-1000000 : Int32)]) (V' := V2) rfl ?_
    obtain ⟨rfl, rfl⟩ := x_p2 h
    exact q_ret rfl rfl
  · rw [if_neg hc4] at h
    refine q_if rfl (fun c => absurd (of_decide_eq_true c) hc4) (fun _ => ?_)
    refine q_go 3 (pc' := 16) (ls' := [.ref 96, .int a0, .int a1, .long 0, .long 0, .long 0]) (st' := [.int (2 : Int32), .int (0 : Int32), .int a1]) (V' := V2) rfl ?_
    obtain ⟨x7, V6, hc5, h⟩ := x_b2_eq h
    refine q_call (d := (5)) (as := [.int a1, .int (0 : Int32), .int (2 : Int32)]) (pc' := 19) (ls' := [.ref 96, .int a0, .int a1, .long 0, .long 0, .long 0]) (st' := []) (r1 := some x7) rfl rfl ((f_X7_in_ok hc5).up (by decide)) ?_
    by_cases hc8 : x7 = 0
    · rw [if_pos hc8] at h
      refine q_if rfl (fun _ => ?_) (fun c => absurd hc8 (of_decide_eq_false c))
      refine q_go 1 (pc' := 31) (ls' := [.ref 96, .int a0, .int a1, .long 0, .long 0, .long 0]) (st' := [.int (-1000000 : Int32)]) (V' := V6) rfl ?_
      obtain ⟨rfl, rfl⟩ := x_p2 h
      exact q_ret rfl rfl
    · rw [if_neg hc8] at h
      refine q_if rfl (fun c => absurd (of_decide_eq_true c) hc8) (fun _ => ?_)
      refine q_go 1 (pc' := 23) (ls' := [.ref 96, .int a0, .int a1, .long 0, .long 0, .long 0]) (st' := [.ref 96]) (V' := V6) rfl ?_
      obtain ⟨x11, V10, hc9, h⟩ := x_b2_eq h
      refine q_call (d := (5)) (as := [.ref 96]) (pc' := 26) (ls' := [.ref 96, .int a0, .int a1, .long 0, .long 0, .long 0]) (st' := []) (r1 := some x11) rfl rfl ((f_X7_isPlan_ok hc9).up (by decide)) ?_
      by_cases hc12 : x11 = 0
      · rw [if_pos hc12] at h
        refine q_if rfl (fun c => absurd hc12 (of_decide_eq_true c)) (fun _ => ?_)
        refine q_go 1 (pc' := 31) (ls' := [.ref 96, .int a0, .int a1, .long 0, .long 0, .long 0]) (st' := [.int (-1000000 : Int32)]) (V' := V10) rfl ?_
        obtain ⟨rfl, rfl⟩ := x_p2 h
        exact q_ret rfl rfl
      · rw [if_neg hc12] at h
        refine q_if rfl (fun _ => ?_) (fun c => absurd hc12 (of_decide_eq_false c))
        refine q_go 2 (pc' := 34) (ls' := [.ref 96, .int a0, .int a1, .long 0, .long 0, .long 0]) (st' := [.int a0, .ref 96]) (V' := V10) rfl ?_
        obtain ⟨x15, V14, hc13, h⟩ := x_b2_eq h
        refine q_call (d := (5)) (as := [.ref 96, .int a0]) (pc' := 37) (ls' := [.ref 96, .int a0, .int a1, .long 0, .long 0, .long 0]) (st' := []) (r1 := some x15) rfl rfl ((f_X7_seasonsOf_ok hc13).up (by decide)) ?_
        refine q_go 5 (pc' := 44) (ls' := [.ref 96, .int a0, .int a1, .int x15, .int (0 : Int32), .int (0 : Int32)]) (st' := []) (V' := V14) rfl ?_
        refine f_X7_spent_L44_ok F a0 a1 x15 (fun l4_22 l5_23 V24 h => ?_) 300 (0 : Int32) (0 : Int32) V14  h
        refine q_go 1 (pc' := 85) (ls' := [.ref 96, .int a0, .int a1, .int x15, .int l4_22, .int l5_23]) (st' := [.int a1]) (V' := V24) rfl ?_
        by_cases hc25 : a1 = 0
        · rw [if_pos hc25] at h
          refine q_if rfl (fun c => absurd hc25 (of_decide_eq_true c)) (fun _ => ?_)
          refine q_go 2 (pc' := 111) (ls' := [.ref 96, .int a0, .int a1, .int x15, .int l4_22, .int l5_23]) (st' := [.int l4_22]) (V' := V24) rfl ?_
          obtain ⟨rfl, rfl⟩ := x_p2 h
          exact q_ret rfl rfl
        · rw [if_neg hc25] at h
          refine q_if rfl (fun _ => ?_) (fun c => absurd hc25 (of_decide_eq_false c))
          refine q_go 2 (pc' := 95) (ls' := [.ref 96, .int a0, .int a1, .int x15, .int l4_22, .int l5_23]) (st' := [.int (1 : Int32), .int a1]) (V' := V24) rfl ?_
          by_cases hc26 : a1 = (1 : Int32)
          · rw [if_pos hc26] at h
            refine q_icmp rfl (fun c => absurd hc26 (of_decide_eq_true c)) (fun _ => ?_)
            refine q_go 3 (pc' := 103) (ls' := [.ref 96, .int a0, .int a1, .int x15, .int l4_22, .int l5_23]) (st' := [.int a0, .ref 99]) (V' := V24) rfl ?_
            refine x_em (p := x_in a0 6 = true) (fun hz => by rw [if_neg hz] at h; cases h) (fun hc27 => ?_)
            rw [if_pos hc27] at h
            refine q_ald (Or.inl ⟨rfl, rfl⟩) rfl hc27 ?_
            refine q_go 3 (pc' := 111) (ls' := [.ref 96, .int a0, .int a1, .int x15, .int l4_22, .int l5_23]) (st' := [.int ((V24 99 (a0.toNatClampNeg)) - l4_22)]) (V' := V24) rfl ?_
            obtain ⟨rfl, rfl⟩ := x_p2 h
            exact q_ret rfl rfl
          · rw [if_neg hc26] at h
            refine q_icmp rfl (fun _ => ?_) (fun c => absurd hc26 (of_decide_eq_false c))
            refine q_go 1 (pc' := 111) (ls' := [.ref 96, .int a0, .int a1, .int x15, .int l4_22, .int l5_23]) (st' := [.int x15]) (V' := V24) rfl ?_
            obtain ⟨rfl, rfl⟩ := x_p2 h
            exact q_ret rfl rfl
def f_X7_shown_L29 (F : Nat) (l1 : Int32) : Nat → (Int32 → Int32 → xV → Option (Int32 × xV)) → Int32 → Int32 → xV → Option (Int32 × xV)
  | 0, _, _, _, _ => none
  | n + 1, k, l2, l3, V => if (V 96 10) ≤ l3 then (k l2 l3 V) else (if x_in (((V 96 10) * l1) + l3) 8 = true then (f_X7_shown_L29 F l1 n k (l2 ||| ((1 : Int32) <<< ((V 111 ((((V 96 10) * l1) + l3).toNatClampNeg)) &&& 31))) (l3 + (1 : Int32)) V) else none)
theorem f_X7_shown_L29_ok (F : Nat) (l1 : Int32) {k : Int32 → Int32 → xV → Option (Int32 × xV)} {x : Int32} {W : xV} (hk : ∀ (l2 : Int32) (l3 : Int32) (V : xV), k l2 l3 V = some (x, W) → x_Ex (6) kX7_shown 61 [.ref 96, .int l1, .int l2, .int l3] [] V (some x) W) : ∀ (n : Nat) (l2 : Int32) (l3 : Int32) (V : xV), f_X7_shown_L29 F l1 n k l2 l3 V = some (x, W) → x_Ex (6) kX7_shown 29 [.ref 96, .int l1, .int l2, .int l3] [] V (some x) W := by
  intro n
  induction n with
  | zero => intro l2 l3 V  h; cases h
  | succ n ih =>
    intro l2 l3 V  h
    unfold f_X7_shown_L29 at h
    refine q_go 3 (pc' := 34) (ls' := [.ref 96, .int l1, .int l2, .int l3]) (st' := [.int (V 96 10), .int l3]) (V' := V) rfl ?_
    by_cases hc9 : (V 96 10) ≤ l3
    · rw [if_pos hc9] at h
      refine q_icmp rfl (fun _ => ?_) (fun c => absurd hc9 (of_decide_eq_false c))
      exact hk l2 l3 V  h
    · rw [if_neg hc9] at h
      refine q_icmp rfl (fun c => absurd (of_decide_eq_true c) hc9) (fun _ => ?_)
      refine q_go 10 (pc' := 51) (ls' := [.ref 96, .int l1, .int l2, .int l3]) (st' := [.int (((V 96 10) * l1) + l3), .ref 111, .int (1 : Int32), .int l2]) (V' := V) rfl ?_
      refine x_em (p := x_in (((V 96 10) * l1) + l3) 8 = true) (fun hz => by rw [if_neg hz] at h; cases h) (fun hc10 => ?_)
      rw [if_pos hc10] at h
      refine q_ald (Or.inl ⟨rfl, rfl⟩) rfl hc10 ?_
      refine q_go 5 (pc' := 29) (ls' := [.ref 96, .int l1, .int (l2 ||| ((1 : Int32) <<< ((V 111 ((((V 96 10) * l1) + l3).toNatClampNeg)) &&& 31))), .int (l3 + (1 : Int32))]) (st' := []) (V' := V) rfl ?_
      exact ih (l2 ||| ((1 : Int32) <<< ((V 111 ((((V 96 10) * l1) + l3).toNatClampNeg)) &&& 31))) (l3 + (1 : Int32)) V  h
def f_X7_shown (F : Nat) (a0 : Int32) (V : xV) : Option (Int32 × xV) := x_b2 (f_X7_isSeason a0 (x_up V 96 0 (0 : Int32))) (fun x3 V2 => if x3 = 0 then (some ((-1 : Int32), V2)) else (x_b2 (f_X7_isPlan F V2) (fun x7 V6 => if x7 = 0 then (some ((-9 : Int32), V6)) else (f_X7_shown_L29 F a0 300 (fun l2_11 l3_12 V13 => some (l2_11, V13)) (0 : Int32) (0 : Int32) V6))))
theorem f_X7_shown_ok {F : Nat} {a0 : Int32} {V W : xV} {x : Int32} (h : f_X7_shown F a0 V = some (x, W)) : x_Rn (6) 135 [.ref 96, .int a0] V (some x) W := by
  refine ⟨4, kX7_shown, rfl, ?_⟩
  show x_Ex (6) kX7_shown 0 [.ref 96, .int a0, .long 0, .long 0] [] V (some x) W
  unfold f_X7_shown at h
  refine q_go 5 (pc' := 7) (ls' := [.ref 96, .int a0, .long 0, .long 0]) (st' := [.int a0, .ref 96]) (V' := (x_up V 96 0 (0 : Int32))) rfl ?_
  obtain ⟨x3, V2, hc1, h⟩ := x_b2_eq h
  refine q_call (d := (5)) (as := [.ref 96, .int a0]) (pc' := 10) (ls' := [.ref 96, .int a0, .long 0, .long 0]) (st' := []) (r1 := some x3) rfl rfl ((f_X7_isSeason_ok hc1).up (by decide)) ?_
  by_cases hc4 : x3 = 0
  · rw [if_pos hc4] at h
    refine q_if rfl (fun c => absurd hc4 (of_decide_eq_true c)) (fun _ => ?_)
    refine q_go 1 (pc' := 14) (ls' := [.ref 96, .int a0, .long 0, .long 0]) (st' := [.int (-1 : Int32)]) (V' := V2) rfl ?_
    obtain ⟨rfl, rfl⟩ := x_p2 h
    exact q_ret rfl rfl
  · rw [if_neg hc4] at h
    refine q_if rfl (fun _ => ?_) (fun c => absurd hc4 (of_decide_eq_false c))
    refine q_go 1 (pc' := 16) (ls' := [.ref 96, .int a0, .long 0, .long 0]) (st' := [.ref 96]) (V' := V2) rfl ?_
    obtain ⟨x7, V6, hc5, h⟩ := x_b2_eq h
    refine q_call (d := (5)) (as := [.ref 96]) (pc' := 19) (ls' := [.ref 96, .int a0, .long 0, .long 0]) (st' := []) (r1 := some x7) rfl rfl ((f_X7_isPlan_ok hc5).up (by decide)) ?_
    by_cases hc8 : x7 = 0
    · rw [if_pos hc8] at h
      refine q_if rfl (fun c => absurd hc8 (of_decide_eq_true c)) (fun _ => ?_)
      refine q_go 1 (pc' := 24) (ls' := [.ref 96, .int a0, .long 0, .long 0]) (st' := [.int (-9 : Int32)]) (V' := V6) rfl ?_
      obtain ⟨rfl, rfl⟩ := x_p2 h
      exact q_ret rfl rfl
    · rw [if_neg hc8] at h
      refine q_if rfl (fun _ => ?_) (fun c => absurd hc8 (of_decide_eq_false c))
      refine q_go 4 (pc' := 29) (ls' := [.ref 96, .int a0, .int (0 : Int32), .int (0 : Int32)]) (st' := []) (V' := V6) rfl ?_
      refine f_X7_shown_L29_ok F a0 (fun l2_11 l3_12 V13 h => ?_) 300 (0 : Int32) (0 : Int32) V6  h
      refine q_go 1 (pc' := 62) (ls' := [.ref 96, .int a0, .int l2_11, .int l3_12]) (st' := [.int l2_11]) (V' := V13) rfl ?_
      obtain ⟨rfl, rfl⟩ := x_p2 h
      exact q_ret rfl rfl
def f_X7_manyOf_L8 (l1 : Int32) : Nat → (Int32 → Int32 → xV → Option (Int32 × xV)) → Int32 → Int32 → xV → Option (Int32 × xV)
  | 0, _, _, _, _ => none
  | n + 1, k, l2, l3, V => if l3 = 0 then (k l2 l3 V) else (f_X7_manyOf_L8 l1 n k (l2 + (1 : Int32)) (l3 &&& (l3 - 1)) V)
theorem f_X7_manyOf_L8_ok (l1 : Int32) {k : Int32 → Int32 → xV → Option (Int32 × xV)} {x : Int32} {W : xV} (hk : ∀ (l2 : Int32) (l3 : Int32) (V : xV), k l2 l3 V = some (x, W) → x_Ex (1) kX7_manyOf 24 [.ref 96, .int l1, .int l2, .int l3] [] V (some x) W) : ∀ (n : Nat) (l2 : Int32) (l3 : Int32) (V : xV), f_X7_manyOf_L8 l1 n k l2 l3 V = some (x, W) → x_Ex (1) kX7_manyOf 8 [.ref 96, .int l1, .int l2, .int l3] [] V (some x) W := by
  intro n
  induction n with
  | zero => intro l2 l3 V  h; cases h
  | succ n ih =>
    intro l2 l3 V  h
    unfold f_X7_manyOf_L8 at h
    refine q_go 1 (pc' := 9) (ls' := [.ref 96, .int l1, .int l2, .int l3]) (st' := [.int l3]) (V' := V) rfl ?_
    by_cases hc4 : l3 = 0
    · rw [if_pos hc4] at h
      refine q_if rfl (fun _ => ?_) (fun c => absurd hc4 (of_decide_eq_false c))
      exact hk l2 l3 V  h
    · rw [if_neg hc4] at h
      refine q_if rfl (fun c => absurd (of_decide_eq_true c) hc4) (fun _ => ?_)
      refine q_go 8 (pc' := 8) (ls' := [.ref 96, .int l1, .int (l2 + (1 : Int32)), .int (l3 &&& (l3 - 1))]) (st' := []) (V' := V) rfl ?_
      exact ih (l2 + (1 : Int32)) (l3 &&& (l3 - 1)) V  h
def f_X7_manyOf (a0 : Int32) (V : xV) : Option (Int32 × xV) := x_b2 (f_X7_seasonsOf a0 V) (fun x3 V2 => f_X7_manyOf_L8 a0 300 (fun l2_5 l3_6 V7 => some (l2_5, V7)) (0 : Int32) x3 V2)
theorem f_X7_manyOf_ok {a0 : Int32} {V W : xV} {x : Int32} (h : f_X7_manyOf a0 V = some (x, W)) : x_Rn (1) 136 [.ref 96, .int a0] V (some x) W := by
  refine ⟨4, kX7_manyOf, rfl, ?_⟩
  show x_Ex (1) kX7_manyOf 0 [.ref 96, .int a0, .long 0, .long 0] [] V (some x) W
  unfold f_X7_manyOf at h
  refine q_go 4 (pc' := 4) (ls' := [.ref 96, .int a0, .int (0 : Int32), .long 0]) (st' := [.int a0, .ref 96]) (V' := V) rfl ?_
  obtain ⟨x3, V2, hc1, h⟩ := x_b2_eq h
  refine q_call (d := (0)) (as := [.ref 96, .int a0]) (pc' := 7) (ls' := [.ref 96, .int a0, .int (0 : Int32), .long 0]) (st' := []) (r1 := some x3) rfl rfl ((f_X7_seasonsOf_ok hc1).up (by decide)) ?_
  refine q_go 1 (pc' := 8) (ls' := [.ref 96, .int a0, .int (0 : Int32), .int x3]) (st' := []) (V' := V2) rfl ?_
  refine f_X7_manyOf_L8_ok a0 (fun l2_5 l3_6 V7 h => ?_) 300 (0 : Int32) x3 V2  h
  refine q_go 1 (pc' := 25) (ls' := [.ref 96, .int a0, .int l2_5, .int l3_6]) (st' := [.int l2_5]) (V' := V7) rfl ?_
  obtain ⟨rfl, rfl⟩ := x_p2 h
  exact q_ret rfl rfl
def f_X7_often_L41 (F : Nat) (l1 : Int32) (l2 : Int32) (l3 : Int32) (l4 : Int32) : Nat → (Int32 → Int32 → xV → Option (Int32 × xV)) → Int32 → Int32 → xV → Option (Int32 × xV)
  | 0, _, _, _, _ => none
  | n + 1, k, l5, l6, V => if (V 96 8) ≤ l6 then (k l5 l6 V) else (x_b2 (f_X7_manyOf l6 V) (fun x10 V9 => x_b2 (f_X7_manyOf l4 V9) (fun x13 V12 => if x13 < x10 then (f_X7_often_L41 F l1 l2 l3 l4 n k (l5 + 1) (l6 + (1 : Int32)) V12) else (x_b2 (f_X7_manyOf l6 V12) (fun x17 V16 => x_b2 (f_X7_manyOf l4 V16) (fun x20 V19 => if x17 = x20 then (if l4 ≤ l6 then (f_X7_often_L41 F l1 l2 l3 l4 n k (l5 + 0) (l6 + (1 : Int32)) V19) else (f_X7_often_L41 F l1 l2 l3 l4 n k (l5 + 1) (l6 + (1 : Int32)) V19)) else (f_X7_often_L41 F l1 l2 l3 l4 n k (l5 + 0) (l6 + (1 : Int32)) V19)))))))
theorem f_X7_often_L41_ok (F : Nat) (l1 : Int32) (l2 : Int32) (l3 : Int32) (l4 : Int32) {k : Int32 → Int32 → xV → Option (Int32 × xV)} {x : Int32} {W : xV} (hk : ∀ (l5 : Int32) (l6 : Int32) (V : xV), k l5 l6 V = some (x, W) → x_Ex (6) kX7_often 103 [.ref 96, .int l1, .int l2, .int l3, .int l4, .int l5, .int l6] [] V (some x) W) : ∀ (n : Nat) (l5 : Int32) (l6 : Int32) (V : xV), f_X7_often_L41 F l1 l2 l3 l4 n k l5 l6 V = some (x, W) → x_Ex (6) kX7_often 41 [.ref 96, .int l1, .int l2, .int l3, .int l4, .int l5, .int l6] [] V (some x) W := by
  intro n
  induction n with
  | zero => intro l5 l6 V  h; cases h
  | succ n ih =>
    intro l5 l6 V  h
    unfold f_X7_often_L41 at h
    refine q_go 3 (pc' := 47) (ls' := [.ref 96, .int l1, .int l2, .int l3, .int l4, .int l5, .int l6]) (st' := [.int (V 96 8), .int l6]) (V' := V) rfl ?_
    by_cases hc7 : (V 96 8) ≤ l6
    · rw [if_pos hc7] at h
      refine q_icmp rfl (fun _ => ?_) (fun c => absurd hc7 (of_decide_eq_false c))
      exact hk l5 l6 V  h
    · rw [if_neg hc7] at h
      refine q_icmp rfl (fun c => absurd (of_decide_eq_true c) hc7) (fun _ => ?_)
      refine q_go 3 (pc' := 55) (ls' := [.ref 96, .int l1, .int l2, .int l3, .int l4, .int l5, .int l6]) (st' := [.int l6, .ref 96, .int l5]) (V' := V) rfl ?_
      obtain ⟨x10, V9, hc8, h⟩ := x_b2_eq h
      refine q_call (d := (5)) (as := [.ref 96, .int l6]) (pc' := 58) (ls' := [.ref 96, .int l1, .int l2, .int l3, .int l4, .int l5, .int l6]) (st' := [.int l5]) (r1 := some x10) rfl rfl ((f_X7_manyOf_ok hc8).up (by decide)) ?_
      refine q_go 2 (pc' := 61) (ls' := [.ref 96, .int l1, .int l2, .int l3, .int l4, .int l5, .int l6]) (st' := [.int l4, .ref 96, .int x10, .int l5]) (V' := V9) rfl ?_
      obtain ⟨x13, V12, hc11, h⟩ := x_b2_eq h
      refine q_call (d := (5)) (as := [.ref 96, .int l4]) (pc' := 64) (ls' := [.ref 96, .int l1, .int l2, .int l3, .int l4, .int l5, .int l6]) (st' := [.int x10, .int l5]) (r1 := some x13) rfl rfl ((f_X7_manyOf_ok hc11).up (by decide)) ?_
      by_cases hc14 : x13 < x10
      · rw [if_pos hc14] at h
        refine q_icmp rfl (fun _ => ?_) (fun c => absurd hc14 (of_decide_eq_false c))
        refine q_go 6 (pc' := 41) (ls' := [.ref 96, .int l1, .int l2, .int l3, .int l4, .int (l5 + 1), .int (l6 + (1 : Int32))]) (st' := []) (V' := V12) rfl ?_
        exact ih (l5 + 1) (l6 + (1 : Int32)) V12  h
      · rw [if_neg hc14] at h
        refine q_icmp rfl (fun c => absurd (of_decide_eq_true c) hc14) (fun _ => ?_)
        refine q_go 2 (pc' := 70) (ls' := [.ref 96, .int l1, .int l2, .int l3, .int l4, .int l5, .int l6]) (st' := [.int l6, .ref 96, .int l5]) (V' := V12) rfl ?_
        obtain ⟨x17, V16, hc15, h⟩ := x_b2_eq h
        refine q_call (d := (5)) (as := [.ref 96, .int l6]) (pc' := 73) (ls' := [.ref 96, .int l1, .int l2, .int l3, .int l4, .int l5, .int l6]) (st' := [.int l5]) (r1 := some x17) rfl rfl ((f_X7_manyOf_ok hc15).up (by decide)) ?_
        refine q_go 2 (pc' := 76) (ls' := [.ref 96, .int l1, .int l2, .int l3, .int l4, .int l5, .int l6]) (st' := [.int l4, .ref 96, .int x17, .int l5]) (V' := V16) rfl ?_
        obtain ⟨x20, V19, hc18, h⟩ := x_b2_eq h
        refine q_call (d := (5)) (as := [.ref 96, .int l4]) (pc' := 79) (ls' := [.ref 96, .int l1, .int l2, .int l3, .int l4, .int l5, .int l6]) (st' := [.int x17, .int l5]) (r1 := some x20) rfl rfl ((f_X7_manyOf_ok hc18).up (by decide)) ?_
        by_cases hc21 : x17 = x20
        · rw [if_pos hc21] at h
          refine q_icmp rfl (fun c => absurd hc21 (of_decide_eq_true c)) (fun _ => ?_)
          refine q_go 2 (pc' := 86) (ls' := [.ref 96, .int l1, .int l2, .int l3, .int l4, .int l5, .int l6]) (st' := [.int l4, .int l6, .int l5]) (V' := V19) rfl ?_
          by_cases hc22 : l4 ≤ l6
          · rw [if_pos hc22] at h
            refine q_icmp rfl (fun _ => ?_) (fun c => absurd hc22 (of_decide_eq_false c))
            refine q_go 5 (pc' := 41) (ls' := [.ref 96, .int l1, .int l2, .int l3, .int l4, .int (l5 + 0), .int (l6 + (1 : Int32))]) (st' := []) (V' := V19) rfl ?_
            exact ih (l5 + 0) (l6 + (1 : Int32)) V19  h
          · rw [if_neg hc22] at h
            refine q_icmp rfl (fun c => absurd (of_decide_eq_true c) hc22) (fun _ => ?_)
            refine q_go 6 (pc' := 41) (ls' := [.ref 96, .int l1, .int l2, .int l3, .int l4, .int (l5 + 1), .int (l6 + (1 : Int32))]) (st' := []) (V' := V19) rfl ?_
            exact ih (l5 + 1) (l6 + (1 : Int32)) V19  h
        · rw [if_neg hc21] at h
          refine q_icmp rfl (fun _ => ?_) (fun c => absurd hc21 (of_decide_eq_false c))
          refine q_go 5 (pc' := 41) (ls' := [.ref 96, .int l1, .int l2, .int l3, .int l4, .int (l5 + 0), .int (l6 + (1 : Int32))]) (st' := []) (V' := V19) rfl ?_
          exact ih (l5 + 0) (l6 + (1 : Int32)) V19  h
def f_X7_often_L22 (F : Nat) (l1 : Int32) (l3 : Int32) : Nat → (Int32 → Int32 → xV → Option (Int32 × xV)) → Int32 → Int32 → xV → Option (Int32 × xV)
  | 0, _, _, _, _ => none
  | n + 1, k, l2, l4, V => if (V 96 8) ≤ l4 then (k l2 l4 V) else (if l3 = 0 then (k l2 l4 V) else (f_X7_often_L41 F l1 l2 l3 l4 300 (fun l5_23 l6_24 V25 => if l5_23 = l1 then (f_X7_often_L22 F l1 l3 n k l4 (l4 + (1 : Int32)) V25) else (f_X7_often_L22 F l1 l3 n k l2 (l4 + (1 : Int32)) V25)) (0 : Int32) (0 : Int32) V))
theorem f_X7_often_L22_ok (F : Nat) (l1 : Int32) (l3 : Int32) {k : Int32 → Int32 → xV → Option (Int32 × xV)} {x : Int32} {W : xV} (hk : ∀ (l2 : Int32) (l4 : Int32) (V : xV) (g5 : Value) (g6 : Value), k l2 l4 V = some (x, W) → x_Ex (6) kX7_often 122 [.ref 96, .int l1, .int l2, .int l3, .int l4, g5, g6] [] V (some x) W) : ∀ (n : Nat) (l2 : Int32) (l4 : Int32) (V : xV) (g5 : Value) (g6 : Value), f_X7_often_L22 F l1 l3 n k l2 l4 V = some (x, W) → x_Ex (6) kX7_often 22 [.ref 96, .int l1, .int l2, .int l3, .int l4, g5, g6] [] V (some x) W := by
  intro n
  induction n with
  | zero => intro l2 l4 V g5 g6 h; cases h
  | succ n ih =>
    intro l2 l4 V g5 g6 h
    unfold f_X7_often_L22 at h
    refine q_go 3 (pc' := 28) (ls' := [.ref 96, .int l1, .int l2, .int l3, .int l4, g5, g6]) (st' := [.int (V 96 8), .int l4]) (V' := V) rfl ?_
    by_cases hc5 : (V 96 8) ≤ l4
    · rw [if_pos hc5] at h
      refine q_icmp rfl (fun _ => ?_) (fun c => absurd hc5 (of_decide_eq_false c))
      exact hk l2 l4 V g5 g6 h
    · rw [if_neg hc5] at h
      refine q_icmp rfl (fun c => absurd (of_decide_eq_true c) hc5) (fun _ => ?_)
      refine q_go 1 (pc' := 32) (ls' := [.ref 96, .int l1, .int l2, .int l3, .int l4, g5, g6]) (st' := [.int l3]) (V' := V) rfl ?_
      by_cases hc6 : l3 = 0
      · rw [if_pos hc6] at h
        refine q_if rfl (fun _ => ?_) (fun c => absurd hc6 (of_decide_eq_false c))
        exact hk l2 l4 V g5 g6 h
      · rw [if_neg hc6] at h
        refine q_if rfl (fun c => absurd (of_decide_eq_true c) hc6) (fun _ => ?_)
        refine q_go 4 (pc' := 41) (ls' := [.ref 96, .int l1, .int l2, .int l3, .int l4, .int (0 : Int32), .int (0 : Int32)]) (st' := []) (V' := V) rfl ?_
        refine f_X7_often_L41_ok F l1 l2 l3 l4 (fun l5_23 l6_24 V25 h => ?_) 300 (0 : Int32) (0 : Int32) V  h
        refine q_go 2 (pc' := 106) (ls' := [.ref 96, .int l1, .int l2, .int l3, .int l4, .int l5_23, .int l6_24]) (st' := [.int l1, .int l5_23]) (V' := V25) rfl ?_
        by_cases hc26 : l5_23 = l1
        · rw [if_pos hc26] at h
          refine q_icmp rfl (fun c => absurd hc26 (of_decide_eq_true c)) (fun _ => ?_)
          refine q_go 5 (pc' := 22) (ls' := [.ref 96, .int l1, .int l4, .int l3, .int (l4 + (1 : Int32)), .int l5_23, .int l6_24]) (st' := []) (V' := V25) rfl ?_
          exact ih l4 (l4 + (1 : Int32)) V25 (.int l5_23) (.int l6_24) h
        · rw [if_neg hc26] at h
          refine q_icmp rfl (fun _ => ?_) (fun c => absurd hc26 (of_decide_eq_false c))
          refine q_go 4 (pc' := 22) (ls' := [.ref 96, .int l1, .int l2, .int l3, .int (l4 + (1 : Int32)), .int l5_23, .int l6_24]) (st' := []) (V' := V25) rfl ?_
          exact ih l2 (l4 + (1 : Int32)) V25 (.int l5_23) (.int l6_24) h
def f_X7_often (F : Nat) (a0 : Int32) (V : xV) : Option (Int32 × xV) := if 0 ≤ a0 then (x_b2 (f_X7_isPlan F (x_up V 96 0 (0 : Int32))) (fun x4 V3 => f_X7_often_L22 F a0 x4 300 (fun l2_27 l4_28 V29 => some (l2_27, V29)) (-9 : Int32) (0 : Int32) V3)) else (some ((-1 : Int32), (x_up V 96 0 (0 : Int32))))
theorem f_X7_often_ok {F : Nat} {a0 : Int32} {V W : xV} {x : Int32} (h : f_X7_often F a0 V = some (x, W)) : x_Rn (6) 137 [.ref 96, .int a0] V (some x) W := by
  refine ⟨7, kX7_often, rfl, ?_⟩
  show x_Ex (6) kX7_often 0 [.ref 96, .int a0, .long 0, .long 0, .long 0, .long 0, .long 0] [] V (some x) W
  unfold f_X7_often at h
  refine q_go 4 (pc' := 6) (ls' := [.ref 96, .int a0, .long 0, .long 0, .long 0, .long 0, .long 0]) (st' := [.int a0]) (V' := (x_up V 96 0 (0 : Int32))) rfl ?_
  by_cases hc1 : 0 ≤ a0
  · rw [if_pos hc1] at h
    refine q_if rfl (fun _ => ?_) (fun c => absurd hc1 (of_decide_eq_false c))
    refine q_go 3 (pc' := 15) (ls' := [.ref 96, .int a0, .int (-9 : Int32), .long 0, .long 0, .long 0, .long 0]) (st' := [.ref 96]) (V' := (x_up V 96 0 (0 : Int32))) rfl ?_
    obtain ⟨x4, V3, hc2, h⟩ := x_b2_eq h
    refine q_call (d := (5)) (as := [.ref 96]) (pc' := 18) (ls' := [.ref 96, .int a0, .int (-9 : Int32), .long 0, .long 0, .long 0, .long 0]) (st' := []) (r1 := some x4) rfl rfl ((f_X7_isPlan_ok hc2).up (by decide)) ?_
    refine q_go 3 (pc' := 22) (ls' := [.ref 96, .int a0, .int (-9 : Int32), .int x4, .int (0 : Int32), .long 0, .long 0]) (st' := []) (V' := V3) rfl ?_
    refine f_X7_often_L22_ok F a0 x4 (fun l2_27 l4_28 V29 g5_30 g6_31 h => ?_) 300 (-9 : Int32) (0 : Int32) V3 (.long 0) (.long 0) h
    refine q_go 1 (pc' := 123) (ls' := [.ref 96, .int a0, .int l2_27, .int x4, .int l4_28, g5_30, g6_31]) (st' := [.int l2_27]) (V' := V29) rfl ?_
    obtain ⟨rfl, rfl⟩ := x_p2 h
    exact q_ret rfl rfl
  · rw [if_neg hc1] at h
    refine q_if rfl (fun c => absurd (of_decide_eq_true c) hc1) (fun _ => ?_)
    refine q_go 1 (pc' := 10) (ls' := [.ref 96, .int a0, .long 0, .long 0, .long 0, .long 0, .long 0]) (st' := [.int (-1 : Int32)]) (V' := (x_up V 96 0 (0 : Int32))) rfl ?_
    obtain ⟨rfl, rfl⟩ := x_p2 h
    exact q_ret rfl rfl
def f_X7_needed (F : Nat) (V : xV) : Option (Int32 × xV) := x_b2 (f_X7_isOn (0 : Int32) (x_up V 96 0 (0 : Int32))) (fun x3 V2 => if x3 = 0 then (x_b2 (f_X7_isPlan F V2) (fun x10 V9 => if x10 = 0 then (some ((-9 : Int32), V9)) else (some ((0 : Int32), V9)))) else (x_b1 (f_X7_tries F (-1 : Int32) (1 : Int32) V2) (fun V6 => if (100 : Int32) ≤ (V6 96 32) then (some ((-9 : Int32), V6)) else (some ((V6 96 32), V6)))))
theorem f_X7_needed_ok {F : Nat} {V W : xV} {x : Int32} (h : f_X7_needed F V = some (x, W)) : x_Rn (6) 138 [.ref 96] V (some x) W := by
  refine ⟨1, kX7_needed, rfl, ?_⟩
  show x_Ex (6) kX7_needed 0 [.ref 96] [] V (some x) W
  unfold f_X7_needed at h
  refine q_go 5 (pc' := 7) (ls' := [.ref 96]) (st' := [.int (0 : Int32), .ref 96]) (V' := (x_up V 96 0 (0 : Int32))) rfl ?_
  obtain ⟨x3, V2, hc1, h⟩ := x_b2_eq h
  refine q_call (d := (5)) (as := [.ref 96, .int (0 : Int32)]) (pc' := 10) (ls' := [.ref 96]) (st' := []) (r1 := some x3) rfl rfl ((f_X7_isOn_ok hc1).up (by decide)) ?_
  by_cases hc4 : x3 = 0
  · rw [if_pos hc4] at h
    refine q_if rfl (fun c => absurd hc4 (of_decide_eq_true c)) (fun _ => ?_)
    refine q_go 1 (pc' := 14) (ls' := [.ref 96]) (st' := [.ref 96]) (V' := V2) rfl ?_
    obtain ⟨x10, V9, hc8, h⟩ := x_b2_eq h
    refine q_call (d := (5)) (as := [.ref 96]) (pc' := 17) (ls' := [.ref 96]) (st' := []) (r1 := some x10) rfl rfl ((f_X7_isPlan_ok hc8).up (by decide)) ?_
    by_cases hc11 : x10 = 0
    · rw [if_pos hc11] at h
      refine q_if rfl (fun _ => ?_) (fun c => absurd hc11 (of_decide_eq_false c))
      refine q_go 1 (pc' := 26) (ls' := [.ref 96]) (st' := [.int (-9 : Int32)]) (V' := V9) rfl ?_
      obtain ⟨rfl, rfl⟩ := x_p2 h
      exact q_ret rfl rfl
    · rw [if_neg hc11] at h
      refine q_if rfl (fun c => absurd (of_decide_eq_true c) hc11) (fun _ => ?_)
      refine q_go 2 (pc' := 26) (ls' := [.ref 96]) (st' := [.int (0 : Int32)]) (V' := V9) rfl ?_
      obtain ⟨rfl, rfl⟩ := x_p2 h
      exact q_ret rfl rfl
  · rw [if_neg hc4] at h
    refine q_if rfl (fun _ => ?_) (fun c => absurd hc4 (of_decide_eq_false c))
    refine q_go 3 (pc' := 30) (ls' := [.ref 96]) (st' := [.int (1 : Int32), .int (-1 : Int32), .ref 96]) (V' := V2) rfl ?_
    obtain ⟨V6, hc5, h⟩ := x_b1_eq h
    refine q_call (d := (5)) (as := [.ref 96, .int (-1 : Int32), .int (1 : Int32)]) (pc' := 33) (ls' := [.ref 96]) (st' := []) (r1 := none) rfl rfl ((f_X7_tries_ok hc5).up (by decide)) ?_
    refine q_go 3 (pc' := 39) (ls' := [.ref 96]) (st' := [.int (100 : Int32), .int (V6 96 32)]) (V' := V6) rfl ?_
    by_cases hc7 : (100 : Int32) ≤ (V6 96 32)
    · rw [if_pos hc7] at h
      refine q_icmp rfl (fun _ => ?_) (fun c => absurd hc7 (of_decide_eq_false c))
      refine q_go 1 (pc' := 51) (ls' := [.ref 96]) (st' := [.int (-9 : Int32)]) (V' := V6) rfl ?_
      obtain ⟨rfl, rfl⟩ := x_p2 h
      exact q_ret rfl rfl
    · rw [if_neg hc7] at h
      refine q_icmp rfl (fun c => absurd (of_decide_eq_true c) hc7) (fun _ => ?_)
      refine q_go 3 (pc' := 51) (ls' := [.ref 96]) (st' := [.int (V6 96 32)]) (V' := V6) rfl ?_
      obtain ⟨rfl, rfl⟩ := x_p2 h
      exact q_ret rfl rfl
def f_X7_without (F : Nat) (a0 : Int32) (V : xV) : Option (Int32 × xV) := x_b1 (f_X7_tries F a0 (0 : Int32) V) (fun V2 => if (99 : Int32) ≤ (V2 96 32) then (some ((9 : Int32), V2)) else (some ((V2 96 32), V2)))
theorem f_X7_without_ok {F : Nat} {a0 : Int32} {V W : xV} {x : Int32} (h : f_X7_without F a0 V = some (x, W)) : x_Rn (5) 139 [.ref 96, .int a0] V (some x) W := by
  refine ⟨2, kX7_without, rfl, ?_⟩
  show x_Ex (5) kX7_without 0 [.ref 96, .int a0] [] V (some x) W
  unfold f_X7_without at h
  refine q_go 3 (pc' := 3) (ls' := [.ref 96, .int a0]) (st' := [.int (0 : Int32), .int a0, .ref 96]) (V' := V) rfl ?_
  obtain ⟨V2, hc1, h⟩ := x_b1_eq h
  refine q_call (d := (4)) (as := [.ref 96, .int a0, .int (0 : Int32)]) (pc' := 6) (ls' := [.ref 96, .int a0]) (st' := []) (r1 := none) rfl rfl ((f_X7_tries_ok hc1).up (by decide)) ?_
  refine q_go 3 (pc' := 12) (ls' := [.ref 96, .int a0]) (st' := [.int (99 : Int32), .int (V2 96 32)]) (V' := V2) rfl ?_
  by_cases hc3 : (99 : Int32) ≤ (V2 96 32)
  · rw [if_pos hc3] at h
    refine q_icmp rfl (fun _ => ?_) (fun c => absurd hc3 (of_decide_eq_false c))
    refine q_go 1 (pc' := 24) (ls' := [.ref 96, .int a0]) (st' := [.int (9 : Int32)]) (V' := V2) rfl ?_
    obtain ⟨rfl, rfl⟩ := x_p2 h
    exact q_ret rfl rfl
  · rw [if_neg hc3] at h
    refine q_icmp rfl (fun c => absurd (of_decide_eq_true c) hc3) (fun _ => ?_)
    refine q_go 3 (pc' := 24) (ls' := [.ref 96, .int a0]) (st' := [.int (V2 96 32)]) (V' := V2) rfl ?_
    obtain ⟨rfl, rfl⟩ := x_p2 h
    exact q_ret rfl rfl
def f_X7_dearth (F : Nat) (a0 : Int32) (V : xV) : Option (Int32 × xV) := x_b2 (f_X7_isThing a0 (x_up V 96 0 (0 : Int32))) (fun x3 V2 => if x3 = 0 then (some ((-1 : Int32), V2)) else (x_b2 (f_X7_without F (-1 : Int32) V2) (fun x7 V6 => x_b2 (f_X7_without F a0 V6) (fun x10 V9 => if x7 = (9 : Int32) then (some ((-9 : Int32), V9)) else (if x10 = (9 : Int32) then (some ((-9 : Int32), V9)) else (some ((x10 - x7), V9)))))))
theorem f_X7_dearth_ok {F : Nat} {a0 : Int32} {V W : xV} {x : Int32} (h : f_X7_dearth F a0 V = some (x, W)) : x_Rn (6) 140 [.ref 96, .int a0] V (some x) W := by
  refine ⟨4, kX7_dearth, rfl, ?_⟩
  show x_Ex (6) kX7_dearth 0 [.ref 96, .int a0, .long 0, .long 0] [] V (some x) W
  unfold f_X7_dearth at h
  refine q_go 5 (pc' := 7) (ls' := [.ref 96, .int a0, .long 0, .long 0]) (st' := [.int a0, .ref 96]) (V' := (x_up V 96 0 (0 : Int32))) rfl ?_
  obtain ⟨x3, V2, hc1, h⟩ := x_b2_eq h
  refine q_call (d := (5)) (as := [.ref 96, .int a0]) (pc' := 10) (ls' := [.ref 96, .int a0, .long 0, .long 0]) (st' := []) (r1 := some x3) rfl rfl ((f_X7_isThing_ok hc1).up (by decide)) ?_
  by_cases hc4 : x3 = 0
  · rw [if_pos hc4] at h
    refine q_if rfl (fun c => absurd hc4 (of_decide_eq_true c)) (fun _ => ?_)
    refine q_go 1 (pc' := 14) (ls' := [.ref 96, .int a0, .long 0, .long 0]) (st' := [.int (-1 : Int32)]) (V' := V2) rfl ?_
    obtain ⟨rfl, rfl⟩ := x_p2 h
    exact q_ret rfl rfl
  · rw [if_neg hc4] at h
    refine q_if rfl (fun _ => ?_) (fun c => absurd hc4 (of_decide_eq_false c))
    refine q_go 2 (pc' := 17) (ls' := [.ref 96, .int a0, .long 0, .long 0]) (st' := [.int (-1 : Int32), .ref 96]) (V' := V2) rfl ?_
    obtain ⟨x7, V6, hc5, h⟩ := x_b2_eq h
    refine q_call (d := (5)) (as := [.ref 96, .int (-1 : Int32)]) (pc' := 20) (ls' := [.ref 96, .int a0, .long 0, .long 0]) (st' := []) (r1 := some x7) rfl rfl ((f_X7_without_ok hc5).up (by decide)) ?_
    refine q_go 3 (pc' := 23) (ls' := [.ref 96, .int a0, .int x7, .long 0]) (st' := [.int a0, .ref 96]) (V' := V6) rfl ?_
    obtain ⟨x10, V9, hc8, h⟩ := x_b2_eq h
    refine q_call (d := (5)) (as := [.ref 96, .int a0]) (pc' := 26) (ls' := [.ref 96, .int a0, .int x7, .long 0]) (st' := []) (r1 := some x10) rfl rfl ((f_X7_without_ok hc8).up (by decide)) ?_
    refine q_go 3 (pc' := 30) (ls' := [.ref 96, .int a0, .int x7, .int x10]) (st' := [.int (9 : Int32), .int x7]) (V' := V9) rfl ?_
    by_cases hc11 : x7 = (9 : Int32)
    · rw [if_pos hc11] at h
      refine q_icmp rfl (fun _ => ?_) (fun c => absurd hc11 (of_decide_eq_false c))
      refine q_go 2 (pc' := 47) (ls' := [.ref 96, .int a0, .int x7, .int x10]) (st' := [.int (-9 : Int32)]) (V' := V9) rfl ?_
      obtain ⟨rfl, rfl⟩ := x_p2 h
      exact q_ret rfl rfl
    · rw [if_neg hc11] at h
      refine q_icmp rfl (fun c => absurd (of_decide_eq_true c) hc11) (fun _ => ?_)
      refine q_go 2 (pc' := 36) (ls' := [.ref 96, .int a0, .int x7, .int x10]) (st' := [.int (9 : Int32), .int x10]) (V' := V9) rfl ?_
      by_cases hc12 : x10 = (9 : Int32)
      · rw [if_pos hc12] at h
        refine q_icmp rfl (fun c => absurd hc12 (of_decide_eq_true c)) (fun _ => ?_)
        refine q_go 2 (pc' := 47) (ls' := [.ref 96, .int a0, .int x7, .int x10]) (st' := [.int (-9 : Int32)]) (V' := V9) rfl ?_
        obtain ⟨rfl, rfl⟩ := x_p2 h
        exact q_ret rfl rfl
      · rw [if_neg hc12] at h
        refine q_icmp rfl (fun _ => ?_) (fun c => absurd hc12 (of_decide_eq_false c))
        refine q_go 3 (pc' := 47) (ls' := [.ref 96, .int a0, .int x7, .int x10]) (st' := [.int (x10 - x7)]) (V' := V9) rfl ?_
        obtain ⟨rfl, rfl⟩ := x_p2 h
        exact q_ret rfl rfl
def f_X7_sees (a0 : Int32) (V : xV) : Option (Int32 × xV) := x_b2 (f_X7_in a0 (0 : Int32) (6 : Int32) (x_up V 96 0 (0 : Int32))) (fun x3 V2 => if x3 = 0 then (if a0 = (9 : Int32) then (if (V2 96 27) = (4 : Int32) then (some ((-3 : Int32), V2)) else (if x_in (V2 96 27) 4 = true then (some (((V2 96 27) + 1), (x_up (x_up V2 107 ((V2 96 27).toNatClampNeg) a0) 96 27 ((V2 96 27) + 1)))) else none)) else (some ((-1 : Int32), V2))) else (if (V2 96 27) = (4 : Int32) then (some ((-3 : Int32), V2)) else (if x_in (V2 96 27) 4 = true then (some (((V2 96 27) + 1), (x_up (x_up V2 107 ((V2 96 27).toNatClampNeg) a0) 96 27 ((V2 96 27) + 1)))) else none)))
theorem f_X7_sees_ok {a0 : Int32} {V W : xV} {x : Int32} (h : f_X7_sees a0 V = some (x, W)) : x_Rn (1) 141 [.ref 96, .int a0] V (some x) W := by
  refine ⟨2, kX7_sees, rfl, ?_⟩
  show x_Ex (1) kX7_sees 0 [.ref 96, .int a0] [] V (some x) W
  unfold f_X7_sees at h
  refine q_go 6 (pc' := 9) (ls' := [.ref 96, .int a0]) (st' := [.int (6 : Int32), .int (0 : Int32), .int a0]) (V' := (x_up V 96 0 (0 : Int32))) rfl ?_
  obtain ⟨x3, V2, hc1, h⟩ := x_b2_eq h
  refine q_call (d := (0)) (as := [.int a0, .int (0 : Int32), .int (6 : Int32)]) (pc' := 12) (ls' := [.ref 96, .int a0]) (st' := []) (r1 := some x3) rfl rfl ((f_X7_in_ok hc1).up (by decide)) ?_
  by_cases hc4 : x3 = 0
  · rw [if_pos hc4] at h
    refine q_if rfl (fun c => absurd hc4 (of_decide_eq_true c)) (fun _ => ?_)
    refine q_go 2 (pc' := 18) (ls' := [.ref 96, .int a0]) (st' := [.int (9 : Int32), .int a0]) (V' := V2) rfl ?_
    by_cases hc7 : a0 = (9 : Int32)
    · rw [if_pos hc7] at h
      refine q_icmp rfl (fun _ => ?_) (fun c => absurd hc7 (of_decide_eq_false c))
      refine q_go 3 (pc' := 28) (ls' := [.ref 96, .int a0]) (st' := [.int (4 : Int32), .int (V2 96 27)]) (V' := V2) rfl ?_
      by_cases hc8 : (V2 96 27) = (4 : Int32)
      · rw [if_pos hc8] at h
        refine q_icmp rfl (fun c => absurd hc8 (of_decide_eq_true c)) (fun _ => ?_)
        refine q_go 1 (pc' := 33) (ls' := [.ref 96, .int a0]) (st' := [.int (-3 : Int32)]) (V' := V2) rfl ?_
        obtain ⟨rfl, rfl⟩ := x_p2 h
        exact q_ret rfl rfl
      · rw [if_neg hc8] at h
        refine q_icmp rfl (fun _ => ?_) (fun c => absurd hc8 (of_decide_eq_false c))
        refine q_go 5 (pc' := 43) (ls' := [.ref 96, .int a0]) (st' := [.int a0, .int (V2 96 27), .ref 107]) (V' := V2) rfl ?_
        refine x_em (p := x_in (V2 96 27) 4 = true) (fun hz => by rw [if_neg hz] at h; cases h) (fun hc9 => ?_)
        rw [if_pos hc9] at h
        refine q_ast rfl rfl hc9 ?_
        refine q_go 8 (pc' := 58) (ls' := [.ref 96, .int a0]) (st' := [.int ((V2 96 27) + 1)]) (V' := (x_up (x_up V2 107 ((V2 96 27).toNatClampNeg) a0) 96 27 ((V2 96 27) + 1))) rfl ?_
        obtain ⟨rfl, rfl⟩ := x_p2 h
        exact q_ret rfl rfl
    · rw [if_neg hc7] at h
      refine q_icmp rfl (fun c => absurd (of_decide_eq_true c) hc7) (fun _ => ?_)
      refine q_go 1 (pc' := 22) (ls' := [.ref 96, .int a0]) (st' := [.int (-1 : Int32)]) (V' := V2) rfl ?_
      obtain ⟨rfl, rfl⟩ := x_p2 h
      exact q_ret rfl rfl
  · rw [if_neg hc4] at h
    refine q_if rfl (fun _ => ?_) (fun c => absurd hc4 (of_decide_eq_false c))
    refine q_go 3 (pc' := 28) (ls' := [.ref 96, .int a0]) (st' := [.int (4 : Int32), .int (V2 96 27)]) (V' := V2) rfl ?_
    by_cases hc5 : (V2 96 27) = (4 : Int32)
    · rw [if_pos hc5] at h
      refine q_icmp rfl (fun c => absurd hc5 (of_decide_eq_true c)) (fun _ => ?_)
      refine q_go 1 (pc' := 33) (ls' := [.ref 96, .int a0]) (st' := [.int (-3 : Int32)]) (V' := V2) rfl ?_
      obtain ⟨rfl, rfl⟩ := x_p2 h
      exact q_ret rfl rfl
    · rw [if_neg hc5] at h
      refine q_icmp rfl (fun _ => ?_) (fun c => absurd hc5 (of_decide_eq_false c))
      refine q_go 5 (pc' := 43) (ls' := [.ref 96, .int a0]) (st' := [.int a0, .int (V2 96 27), .ref 107]) (V' := V2) rfl ?_
      refine x_em (p := x_in (V2 96 27) 4 = true) (fun hz => by rw [if_neg hz] at h; cases h) (fun hc6 => ?_)
      rw [if_pos hc6] at h
      refine q_ast rfl rfl hc6 ?_
      refine q_go 8 (pc' := 58) (ls' := [.ref 96, .int a0]) (st' := [.int ((V2 96 27) + 1)]) (V' := (x_up (x_up V2 107 ((V2 96 27).toNatClampNeg) a0) 96 27 ((V2 96 27) + 1))) rfl ?_
      obtain ⟨rfl, rfl⟩ := x_p2 h
      exact q_ret rfl rfl
def f_X7_forget (V : xV) : Option (Int32 × xV) := some ((V 96 27), (x_up (x_up V 96 0 (0 : Int32)) 96 27 (0 : Int32)))
theorem f_X7_forget_ok {V W : xV} {x : Int32} (h : f_X7_forget V = some (x, W)) : x_Rn (0) 142 [.ref 96] V (some x) W := by
  refine ⟨2, kX7_forget, rfl, ?_⟩
  show x_Ex (0) kX7_forget 0 [.ref 96, .long 0] [] V (some x) W
  unfold f_X7_forget at h
  refine q_go 10 (pc' := 16) (ls' := [.ref 96, .int (V 96 27)]) (st' := [.int (V 96 27)]) (V' := (x_up (x_up V 96 0 (0 : Int32)) 96 27 (0 : Int32))) rfl ?_
  obtain ⟨rfl, rfl⟩ := x_p2 h
  exact q_ret rfl rfl
def f_X7_unseen_L40 (F : Nat) (l1 : Int32) (l2 : Int32) (l4 : Int32) : Nat → (Int32 → Int32 → xV → Option (Int32 × xV)) → Int32 → Int32 → xV → Option (Int32 × xV)
  | 0, _, _, _, _ => none
  | n + 1, k, l3, l5, V => if (V 96 27) ≤ l5 then (k l3 l5 V) else (if l3 = 0 then (f_X7_unseen_L40 F l1 l2 l4 n k (0 : Int32) (l5 + (1 : Int32)) V) else (if x_in l5 4 = true then (if (V 107 (l5.toNatClampNeg)) = l4 then (f_X7_unseen_L40 F l1 l2 l4 n k (1 : Int32) (l5 + (1 : Int32)) V) else (f_X7_unseen_L40 F l1 l2 l4 n k (0 : Int32) (l5 + (1 : Int32)) V)) else none))
theorem f_X7_unseen_L40_ok (F : Nat) (l1 : Int32) (l2 : Int32) (l4 : Int32) {k : Int32 → Int32 → xV → Option (Int32 × xV)} {x : Int32} {W : xV} (hk : ∀ (l3 : Int32) (l5 : Int32) (V : xV), k l3 l5 V = some (x, W) → x_Ex (6) kX7_unseen 77 [.ref 96, .int l1, .int l2, .int l3, .int l4, .int l5] [] V (some x) W) : ∀ (n : Nat) (l3 : Int32) (l5 : Int32) (V : xV), f_X7_unseen_L40 F l1 l2 l4 n k l3 l5 V = some (x, W) → x_Ex (6) kX7_unseen 40 [.ref 96, .int l1, .int l2, .int l3, .int l4, .int l5] [] V (some x) W := by
  intro n
  induction n with
  | zero => intro l3 l5 V  h; cases h
  | succ n ih =>
    intro l3 l5 V  h
    unfold f_X7_unseen_L40 at h
    refine q_go 3 (pc' := 46) (ls' := [.ref 96, .int l1, .int l2, .int l3, .int l4, .int l5]) (st' := [.int (V 96 27), .int l5]) (V' := V) rfl ?_
    by_cases hc6 : (V 96 27) ≤ l5
    · rw [if_pos hc6] at h
      refine q_icmp rfl (fun _ => ?_) (fun c => absurd hc6 (of_decide_eq_false c))
      exact hk l3 l5 V  h
    · rw [if_neg hc6] at h
      refine q_icmp rfl (fun c => absurd (of_decide_eq_true c) hc6) (fun _ => ?_)
      refine q_go 1 (pc' := 50) (ls' := [.ref 96, .int l1, .int l2, .int l3, .int l4, .int l5]) (st' := [.int l3]) (V' := V) rfl ?_
      by_cases hc7 : l3 = 0
      · rw [if_pos hc7] at h
        refine q_if rfl (fun _ => ?_) (fun c => absurd hc7 (of_decide_eq_false c))
        refine q_go 4 (pc' := 40) (ls' := [.ref 96, .int l1, .int l2, .int (0 : Int32), .int l4, .int (l5 + (1 : Int32))]) (st' := []) (V' := V) rfl ?_
        exact ih (0 : Int32) (l5 + (1 : Int32)) V  h
      · rw [if_neg hc7] at h
        refine q_if rfl (fun c => absurd (of_decide_eq_true c) hc7) (fun _ => ?_)
        refine q_go 3 (pc' := 59) (ls' := [.ref 96, .int l1, .int l2, .int l3, .int l4, .int l5]) (st' := [.int l5, .ref 107]) (V' := V) rfl ?_
        refine x_em (p := x_in l5 4 = true) (fun hz => by rw [if_neg hz] at h; cases h) (fun hc8 => ?_)
        rw [if_pos hc8] at h
        refine q_ald (Or.inl ⟨rfl, rfl⟩) rfl hc8 ?_
        refine q_go 1 (pc' := 62) (ls' := [.ref 96, .int l1, .int l2, .int l3, .int l4, .int l5]) (st' := [.int l4, .int (V 107 (l5.toNatClampNeg))]) (V' := V) rfl ?_
        by_cases hc9 : (V 107 (l5.toNatClampNeg)) = l4
        · rw [if_pos hc9] at h
          refine q_icmp rfl (fun c => absurd hc9 (of_decide_eq_true c)) (fun _ => ?_)
          refine q_go 5 (pc' := 40) (ls' := [.ref 96, .int l1, .int l2, .int (1 : Int32), .int l4, .int (l5 + (1 : Int32))]) (st' := []) (V' := V) rfl ?_
          exact ih (1 : Int32) (l5 + (1 : Int32)) V  h
        · rw [if_neg hc9] at h
          refine q_icmp rfl (fun _ => ?_) (fun c => absurd hc9 (of_decide_eq_false c))
          refine q_go 4 (pc' := 40) (ls' := [.ref 96, .int l1, .int l2, .int (0 : Int32), .int l4, .int (l5 + (1 : Int32))]) (st' := []) (V' := V) rfl ?_
          exact ih (0 : Int32) (l5 + (1 : Int32)) V  h
def f_X7_unseen_L9 (F : Nat) : Nat → (Int32 → Int32 → xV → Option (Int32 × xV)) → Int32 → Int32 → xV → Option (Int32 × xV)
  | 0, _, _, _, _ => none
  | n + 1, k, l1, l2, V => if (V 96 8) ≤ l2 then (k l1 l2 V) else (if (V 96 27) = 0 then (f_X7_unseen_L40 F l1 l2 (0 : Int32) 300 (fun l3_14 l5_15 V16 => if l3_14 = 0 then (f_X7_unseen_L9 F n k (l1 ||| 0) (l2 + (1 : Int32)) V16) else (f_X7_unseen_L9 F n k (l1 ||| ((1 : Int32) <<< (l2 &&& 31))) (l2 + (1 : Int32)) V16)) (1 : Int32) (0 : Int32) V) else (x_b2 (f_X7_without F l2 V) (fun x5 V4 => f_X7_unseen_L40 F l1 l2 x5 300 (fun l3_10 l5_11 V12 => if l3_10 = 0 then (f_X7_unseen_L9 F n k (l1 ||| 0) (l2 + (1 : Int32)) V12) else (f_X7_unseen_L9 F n k (l1 ||| ((1 : Int32) <<< (l2 &&& 31))) (l2 + (1 : Int32)) V12)) (1 : Int32) (0 : Int32) V4)))
theorem f_X7_unseen_L9_ok (F : Nat) {k : Int32 → Int32 → xV → Option (Int32 × xV)} {x : Int32} {W : xV} (hk : ∀ (l1 : Int32) (l2 : Int32) (V : xV) (g3 : Value) (g4 : Value) (g5 : Value), k l1 l2 V = some (x, W) → x_Ex (6) kX7_unseen 97 [.ref 96, .int l1, .int l2, g3, g4, g5] [] V (some x) W) : ∀ (n : Nat) (l1 : Int32) (l2 : Int32) (V : xV) (g3 : Value) (g4 : Value) (g5 : Value), f_X7_unseen_L9 F n k l1 l2 V = some (x, W) → x_Ex (6) kX7_unseen 9 [.ref 96, .int l1, .int l2, g3, g4, g5] [] V (some x) W := by
  intro n
  induction n with
  | zero => intro l1 l2 V g3 g4 g5 h; cases h
  | succ n ih =>
    intro l1 l2 V g3 g4 g5 h
    unfold f_X7_unseen_L9 at h
    refine q_go 3 (pc' := 14) (ls' := [.ref 96, .int l1, .int l2, g3, g4, g5]) (st' := [.int (V 96 8), .int l2]) (V' := V) rfl ?_
    by_cases hc1 : (V 96 8) ≤ l2
    · rw [if_pos hc1] at h
      refine q_icmp rfl (fun _ => ?_) (fun c => absurd hc1 (of_decide_eq_false c))
      exact hk l1 l2 V g3 g4 g5 h
    · rw [if_neg hc1] at h
      refine q_icmp rfl (fun c => absurd (of_decide_eq_true c) hc1) (fun _ => ?_)
      refine q_go 4 (pc' := 23) (ls' := [.ref 96, .int l1, .int l2, .int (1 : Int32), g4, g5]) (st' := [.int (V 96 27)]) (V' := V) rfl ?_
      by_cases hc2 : (V 96 27) = 0
      · rw [if_pos hc2] at h
        refine q_if rfl (fun c => absurd hc2 (of_decide_eq_true c)) (fun _ => ?_)
        refine q_go 5 (pc' := 40) (ls' := [.ref 96, .int l1, .int l2, .int (1 : Int32), .int (0 : Int32), .int (0 : Int32)]) (st' := []) (V' := V) rfl ?_
        refine f_X7_unseen_L40_ok F l1 l2 (0 : Int32) (fun l3_14 l5_15 V16 h => ?_) 300 (1 : Int32) (0 : Int32) V  h
        refine q_go 2 (pc' := 79) (ls' := [.ref 96, .int l1, .int l2, .int l3_14, .int (0 : Int32), .int l5_15]) (st' := [.int l3_14, .int l1]) (V' := V16) rfl ?_
        by_cases hc17 : l3_14 = 0
        · rw [if_pos hc17] at h
          refine q_if rfl (fun _ => ?_) (fun c => absurd hc17 (of_decide_eq_false c))
          refine q_go 5 (pc' := 9) (ls' := [.ref 96, .int (l1 ||| 0), .int (l2 + (1 : Int32)), .int l3_14, .int (0 : Int32), .int l5_15]) (st' := []) (V' := V16) rfl ?_
          exact ih (l1 ||| 0) (l2 + (1 : Int32)) V16 (.int l3_14) (.int (0 : Int32)) (.int l5_15) h
        · rw [if_neg hc17] at h
          refine q_if rfl (fun c => absurd (of_decide_eq_true c) hc17) (fun _ => ?_)
          refine q_go 8 (pc' := 9) (ls' := [.ref 96, .int (l1 ||| ((1 : Int32) <<< (l2 &&& 31))), .int (l2 + (1 : Int32)), .int l3_14, .int (0 : Int32), .int l5_15]) (st' := []) (V' := V16) rfl ?_
          exact ih (l1 ||| ((1 : Int32) <<< (l2 &&& 31))) (l2 + (1 : Int32)) V16 (.int l3_14) (.int (0 : Int32)) (.int l5_15) h
      · rw [if_neg hc2] at h
        refine q_if rfl (fun _ => ?_) (fun c => absurd hc2 (of_decide_eq_false c))
        refine q_go 2 (pc' := 32) (ls' := [.ref 96, .int l1, .int l2, .int (1 : Int32), g4, g5]) (st' := [.int l2, .ref 96]) (V' := V) rfl ?_
        obtain ⟨x5, V4, hc3, h⟩ := x_b2_eq h
        refine q_call (d := (5)) (as := [.ref 96, .int l2]) (pc' := 35) (ls' := [.ref 96, .int l1, .int l2, .int (1 : Int32), g4, g5]) (st' := []) (r1 := some x5) rfl rfl ((f_X7_without_ok hc3).up (by decide)) ?_
        refine q_go 3 (pc' := 40) (ls' := [.ref 96, .int l1, .int l2, .int (1 : Int32), .int x5, .int (0 : Int32)]) (st' := []) (V' := V4) rfl ?_
        refine f_X7_unseen_L40_ok F l1 l2 x5 (fun l3_10 l5_11 V12 h => ?_) 300 (1 : Int32) (0 : Int32) V4  h
        refine q_go 2 (pc' := 79) (ls' := [.ref 96, .int l1, .int l2, .int l3_10, .int x5, .int l5_11]) (st' := [.int l3_10, .int l1]) (V' := V12) rfl ?_
        by_cases hc13 : l3_10 = 0
        · rw [if_pos hc13] at h
          refine q_if rfl (fun _ => ?_) (fun c => absurd hc13 (of_decide_eq_false c))
          refine q_go 5 (pc' := 9) (ls' := [.ref 96, .int (l1 ||| 0), .int (l2 + (1 : Int32)), .int l3_10, .int x5, .int l5_11]) (st' := []) (V' := V12) rfl ?_
          exact ih (l1 ||| 0) (l2 + (1 : Int32)) V12 (.int l3_10) (.int x5) (.int l5_11) h
        · rw [if_neg hc13] at h
          refine q_if rfl (fun c => absurd (of_decide_eq_true c) hc13) (fun _ => ?_)
          refine q_go 8 (pc' := 9) (ls' := [.ref 96, .int (l1 ||| ((1 : Int32) <<< (l2 &&& 31))), .int (l2 + (1 : Int32)), .int l3_10, .int x5, .int l5_11]) (st' := []) (V' := V12) rfl ?_
          exact ih (l1 ||| ((1 : Int32) <<< (l2 &&& 31))) (l2 + (1 : Int32)) V12 (.int l3_10) (.int x5) (.int l5_11) h
def f_X7_unseen (F : Nat) (V : xV) : Option (Int32 × xV) := f_X7_unseen_L9 F 300 (fun l1_18 l2_19 V20 => some (l1_18, V20)) (0 : Int32) (0 : Int32) (x_up V 96 0 (0 : Int32))
theorem f_X7_unseen_ok {F : Nat} {V W : xV} {x : Int32} (h : f_X7_unseen F V = some (x, W)) : x_Rn (6) 143 [.ref 96] V (some x) W := by
  refine ⟨6, kX7_unseen, rfl, ?_⟩
  show x_Ex (6) kX7_unseen 0 [.ref 96, .long 0, .long 0, .long 0, .long 0, .long 0] [] V (some x) W
  unfold f_X7_unseen at h
  refine q_go 7 (pc' := 9) (ls' := [.ref 96, .int (0 : Int32), .int (0 : Int32), .long 0, .long 0, .long 0]) (st' := []) (V' := (x_up V 96 0 (0 : Int32))) rfl ?_
  refine f_X7_unseen_L9_ok F (fun l1_18 l2_19 V20 g3_21 g4_22 g5_23 h => ?_) 300 (0 : Int32) (0 : Int32) (x_up V 96 0 (0 : Int32)) (.long 0) (.long 0) (.long 0) h
  refine q_go 1 (pc' := 98) (ls' := [.ref 96, .int l1_18, .int l2_19, g3_21, g4_22, g5_23]) (st' := [.int l1_18]) (V' := V20) rfl ?_
  obtain ⟨rfl, rfl⟩ := x_p2 h
  exact q_ret rfl rfl
def f_X7_keep_L18 (l1 : Int32) : Nat → (Int32 → xV → Option (Int32 × xV)) → Int32 → xV → Option (Int32 × xV)
  | 0, _, _, _ => none
  | n + 1, k, l2, V => if (27 : Int32) ≤ l2 then (k l2 V) else (if x_in l2 27 = true then (if x_in (((27 : Int32) * l1) + l2) 54 = true then (f_X7_keep_L18 l1 n k (l2 + (1 : Int32)) (x_up V 105 ((((27 : Int32) * l1) + l2).toNatClampNeg) (V 103 (l2.toNatClampNeg)))) else none) else none)
theorem f_X7_keep_L18_ok (l1 : Int32) {k : Int32 → xV → Option (Int32 × xV)} {x : Int32} {W : xV} (hk : ∀ (l2 : Int32) (V : xV), k l2 V = some (x, W) → x_Ex (1) kX7_keep 47 [.ref 96, .int l1, .int l2] [] V (some x) W) : ∀ (n : Nat) (l2 : Int32) (V : xV), f_X7_keep_L18 l1 n k l2 V = some (x, W) → x_Ex (1) kX7_keep 18 [.ref 96, .int l1, .int l2] [] V (some x) W := by
  intro n
  induction n with
  | zero => intro l2 V  h; cases h
  | succ n ih =>
    intro l2 V  h
    unfold f_X7_keep_L18 at h
    refine q_go 2 (pc' := 21) (ls' := [.ref 96, .int l1, .int l2]) (st' := [.int (27 : Int32), .int l2]) (V' := V) rfl ?_
    by_cases hc5 : (27 : Int32) ≤ l2
    · rw [if_pos hc5] at h
      refine q_icmp rfl (fun _ => ?_) (fun c => absurd hc5 (of_decide_eq_false c))
      exact hk l2 V  h
    · rw [if_neg hc5] at h
      refine q_icmp rfl (fun c => absurd (of_decide_eq_true c) hc5) (fun _ => ?_)
      refine q_go 10 (pc' := 39) (ls' := [.ref 96, .int l1, .int l2]) (st' := [.int l2, .ref 103, .int (((27 : Int32) * l1) + l2), .ref 105]) (V' := V) rfl ?_
      refine x_em (p := x_in l2 27 = true) (fun hz => by rw [if_neg hz] at h; cases h) (fun hc6 => ?_)
      rw [if_pos hc6] at h
      refine q_ald (Or.inl ⟨rfl, rfl⟩) rfl hc6 ?_
      refine x_em (p := x_in (((27 : Int32) * l1) + l2) 54 = true) (fun hz => by rw [if_neg hz] at h; cases h) (fun hc7 => ?_)
      rw [if_pos hc7] at h
      refine q_ast rfl rfl hc7 ?_
      refine q_go 2 (pc' := 18) (ls' := [.ref 96, .int l1, .int (l2 + (1 : Int32))]) (st' := []) (V' := (x_up V 105 ((((27 : Int32) * l1) + l2).toNatClampNeg) (V 103 (l2.toNatClampNeg)))) rfl ?_
      exact ih (l2 + (1 : Int32)) (x_up V 105 ((((27 : Int32) * l1) + l2).toNatClampNeg) (V 103 (l2.toNatClampNeg)))  h
def f_X7_keep (a0 : Int32) (V : xV) : Option (Int32 × xV) := x_b2 (f_X7_in a0 (0 : Int32) (1 : Int32) (x_up V 96 0 (0 : Int32))) (fun x3 V2 => if x3 = 0 then (some ((-1 : Int32), V2)) else (f_X7_keep_L18 a0 300 (fun l2_8 V9 => if x_in a0 2 = true then (some ((V9 96 8), (x_up V9 106 (a0.toNatClampNeg) (1 : Int32)))) else none) (0 : Int32) V2))
theorem f_X7_keep_ok {a0 : Int32} {V W : xV} {x : Int32} (h : f_X7_keep a0 V = some (x, W)) : x_Rn (1) 144 [.ref 96, .int a0] V (some x) W := by
  refine ⟨3, kX7_keep, rfl, ?_⟩
  show x_Ex (1) kX7_keep 0 [.ref 96, .int a0, .long 0] [] V (some x) W
  unfold f_X7_keep at h
  refine q_go 6 (pc' := 8) (ls' := [.ref 96, .int a0, .long 0]) (st' := [.int (1 : Int32), .int (0 : Int32), .int a0]) (V' := (x_up V 96 0 (0 : Int32))) rfl ?_
  obtain ⟨x3, V2, hc1, h⟩ := x_b2_eq h
  refine q_call (d := (0)) (as := [.int a0, .int (0 : Int32), .int (1 : Int32)]) (pc' := 11) (ls' := [.ref 96, .int a0, .long 0]) (st' := []) (r1 := some x3) rfl rfl ((f_X7_in_ok hc1).up (by decide)) ?_
  by_cases hc4 : x3 = 0
  · rw [if_pos hc4] at h
    refine q_if rfl (fun c => absurd hc4 (of_decide_eq_true c)) (fun _ => ?_)
    refine q_go 1 (pc' := 15) (ls' := [.ref 96, .int a0, .long 0]) (st' := [.int (-1 : Int32)]) (V' := V2) rfl ?_
    obtain ⟨rfl, rfl⟩ := x_p2 h
    exact q_ret rfl rfl
  · rw [if_neg hc4] at h
    refine q_if rfl (fun _ => ?_) (fun c => absurd hc4 (of_decide_eq_false c))
    refine q_go 2 (pc' := 18) (ls' := [.ref 96, .int a0, .int (0 : Int32)]) (st' := []) (V' := V2) rfl ?_
    refine f_X7_keep_L18_ok a0 (fun l2_8 V9 h => ?_) 300 (0 : Int32) V2  h
    refine q_go 4 (pc' := 53) (ls' := [.ref 96, .int a0, .int l2_8]) (st' := [.int (1 : Int32), .int a0, .ref 106]) (V' := V9) rfl ?_
    refine x_em (p := x_in a0 2 = true) (fun hz => by rw [if_neg hz] at h; cases h) (fun hc10 => ?_)
    rw [if_pos hc10] at h
    refine q_zst rfl rfl hc10 (by decide) ?_
    refine q_go 2 (pc' := 58) (ls' := [.ref 96, .int a0, .int l2_8]) (st' := [.int (V9 96 8)]) (V' := (x_up V9 106 (a0.toNatClampNeg) (1 : Int32))) rfl ?_
    obtain ⟨rfl, rfl⟩ := x_p2 h
    exact q_ret rfl rfl
def f_X7_back_L30 (l1 : Int32) : Nat → (Int32 → xV → Option (Int32 × xV)) → Int32 → xV → Option (Int32 × xV)
  | 0, _, _, _ => none
  | n + 1, k, l2, V => if (27 : Int32) ≤ l2 then (k l2 V) else (if x_in (((27 : Int32) * l1) + l2) 54 = true then (if x_in l2 27 = true then (f_X7_back_L30 l1 n k (l2 + (1 : Int32)) (x_up V 103 (l2.toNatClampNeg) (V 105 ((((27 : Int32) * l1) + l2).toNatClampNeg)))) else none) else none)
theorem f_X7_back_L30_ok (l1 : Int32) {k : Int32 → xV → Option (Int32 × xV)} {x : Int32} {W : xV} (hk : ∀ (l2 : Int32) (V : xV), k l2 V = some (x, W) → x_Ex (1) kX7_back 59 [.ref 96, .int l1, .int l2] [] V (some x) W) : ∀ (n : Nat) (l2 : Int32) (V : xV), f_X7_back_L30 l1 n k l2 V = some (x, W) → x_Ex (1) kX7_back 30 [.ref 96, .int l1, .int l2] [] V (some x) W := by
  intro n
  induction n with
  | zero => intro l2 V  h; cases h
  | succ n ih =>
    intro l2 V  h
    unfold f_X7_back_L30 at h
    refine q_go 2 (pc' := 33) (ls' := [.ref 96, .int l1, .int l2]) (st' := [.int (27 : Int32), .int l2]) (V' := V) rfl ?_
    by_cases hc7 : (27 : Int32) ≤ l2
    · rw [if_pos hc7] at h
      refine q_icmp rfl (fun _ => ?_) (fun c => absurd hc7 (of_decide_eq_false c))
      exact hk l2 V  h
    · rw [if_neg hc7] at h
      refine q_icmp rfl (fun c => absurd (of_decide_eq_true c) hc7) (fun _ => ?_)
      refine q_go 10 (pc' := 51) (ls' := [.ref 96, .int l1, .int l2]) (st' := [.int (((27 : Int32) * l1) + l2), .ref 105, .int l2, .ref 103]) (V' := V) rfl ?_
      refine x_em (p := x_in (((27 : Int32) * l1) + l2) 54 = true) (fun hz => by rw [if_neg hz] at h; cases h) (fun hc8 => ?_)
      rw [if_pos hc8] at h
      refine q_ald (Or.inl ⟨rfl, rfl⟩) rfl hc8 ?_
      refine x_em (p := x_in l2 27 = true) (fun hz => by rw [if_neg hz] at h; cases h) (fun hc9 => ?_)
      rw [if_pos hc9] at h
      refine q_ast rfl rfl hc9 ?_
      refine q_go 2 (pc' := 30) (ls' := [.ref 96, .int l1, .int (l2 + (1 : Int32))]) (st' := []) (V' := (x_up V 103 (l2.toNatClampNeg) (V 105 ((((27 : Int32) * l1) + l2).toNatClampNeg)))) rfl ?_
      exact ih (l2 + (1 : Int32)) (x_up V 103 (l2.toNatClampNeg) (V 105 ((((27 : Int32) * l1) + l2).toNatClampNeg)))  h
def f_X7_back (a0 : Int32) (V : xV) : Option (Int32 × xV) := x_b2 (f_X7_in a0 (0 : Int32) (1 : Int32) (x_up V 96 0 (0 : Int32))) (fun x3 V2 => if x3 = 0 then (some ((-1 : Int32), V2)) else (if x_in a0 2 = true then (if (V2 106 (a0.toNatClampNeg)) = 0 then (some ((-2 : Int32), V2)) else (f_X7_back_L30 a0 300 (fun l2_10 V11 => some ((V11 96 8), (x_up V11 96 23 (0 : Int32)))) (0 : Int32) V2)) else none))
theorem f_X7_back_ok {a0 : Int32} {V W : xV} {x : Int32} (h : f_X7_back a0 V = some (x, W)) : x_Rn (1) 145 [.ref 96, .int a0] V (some x) W := by
  refine ⟨3, kX7_back, rfl, ?_⟩
  show x_Ex (1) kX7_back 0 [.ref 96, .int a0, .long 0] [] V (some x) W
  unfold f_X7_back at h
  refine q_go 6 (pc' := 8) (ls' := [.ref 96, .int a0, .long 0]) (st' := [.int (1 : Int32), .int (0 : Int32), .int a0]) (V' := (x_up V 96 0 (0 : Int32))) rfl ?_
  obtain ⟨x3, V2, hc1, h⟩ := x_b2_eq h
  refine q_call (d := (0)) (as := [.int a0, .int (0 : Int32), .int (1 : Int32)]) (pc' := 11) (ls' := [.ref 96, .int a0, .long 0]) (st' := []) (r1 := some x3) rfl rfl ((f_X7_in_ok hc1).up (by decide)) ?_
  by_cases hc4 : x3 = 0
  · rw [if_pos hc4] at h
    refine q_if rfl (fun c => absurd hc4 (of_decide_eq_true c)) (fun _ => ?_)
    refine q_go 1 (pc' := 15) (ls' := [.ref 96, .int a0, .long 0]) (st' := [.int (-1 : Int32)]) (V' := V2) rfl ?_
    obtain ⟨rfl, rfl⟩ := x_p2 h
    exact q_ret rfl rfl
  · rw [if_neg hc4] at h
    refine q_if rfl (fun _ => ?_) (fun c => absurd hc4 (of_decide_eq_false c))
    refine q_go 3 (pc' := 21) (ls' := [.ref 96, .int a0, .long 0]) (st' := [.int a0, .ref 106]) (V' := V2) rfl ?_
    refine x_em (p := x_in a0 2 = true) (fun hz => by rw [if_neg hz] at h; cases h) (fun hc5 => ?_)
    rw [if_pos hc5] at h
    refine q_ald (Or.inr ⟨rfl, rfl⟩) rfl hc5 ?_
    by_cases hc6 : (V2 106 (a0.toNatClampNeg)) = 0
    · rw [if_pos hc6] at h
      refine q_if rfl (fun c => absurd hc6 (of_decide_eq_true c)) (fun _ => ?_)
      refine q_go 1 (pc' := 27) (ls' := [.ref 96, .int a0, .long 0]) (st' := [.int (-2 : Int32)]) (V' := V2) rfl ?_
      obtain ⟨rfl, rfl⟩ := x_p2 h
      exact q_ret rfl rfl
    · rw [if_neg hc6] at h
      refine q_if rfl (fun _ => ?_) (fun c => absurd hc6 (of_decide_eq_false c))
      refine q_go 2 (pc' := 30) (ls' := [.ref 96, .int a0, .int (0 : Int32)]) (st' := []) (V' := V2) rfl ?_
      refine f_X7_back_L30_ok a0 (fun l2_10 V11 h => ?_) 300 (0 : Int32) V2  h
      refine q_go 5 (pc' := 68) (ls' := [.ref 96, .int a0, .int l2_10]) (st' := [.int (V11 96 8)]) (V' := (x_up V11 96 23 (0 : Int32))) rfl ?_
      obtain ⟨rfl, rfl⟩ := x_p2 h
      exact q_ret rfl rfl
def f_X7_count_L80 (l1 : Int32) (l3 : Int32) : Nat → (Int32 → Int32 → xV → Option (Int32 × xV)) → Int32 → Int32 → xV → Option (Int32 × xV)
  | 0, _, _, _, _ => none
  | n + 1, k, l2, l4, V => if l3 ≤ l4 then (k l2 l4 V) else (if x_in ((20 : Int32) + l3) 27 = true then (x_b2 (f_X7_has (V 103 (((20 : Int32) + l3).toNatClampNeg)) l4 V) (fun x11 V10 => if x11 = 0 then (f_X7_count_L80 l1 l3 n k (l2 + 0) (l4 + (1 : Int32)) V10) else (f_X7_count_L80 l1 l3 n k (l2 + 1) (l4 + (1 : Int32)) V10))) else none)
theorem f_X7_count_L80_ok (l1 : Int32) (l3 : Int32) {k : Int32 → Int32 → xV → Option (Int32 × xV)} {x : Int32} {W : xV} (hk : ∀ (l2 : Int32) (l4 : Int32) (V : xV), k l2 l4 V = some (x, W) → x_Ex (1) kX7_count 117 [.ref 96, .int l1, .int l2, .int l3, .int l4] [] V (some x) W) : ∀ (n : Nat) (l2 : Int32) (l4 : Int32) (V : xV), f_X7_count_L80 l1 l3 n k l2 l4 V = some (x, W) → x_Ex (1) kX7_count 80 [.ref 96, .int l1, .int l2, .int l3, .int l4] [] V (some x) W := by
  intro n
  induction n with
  | zero => intro l2 l4 V  h; cases h
  | succ n ih =>
    intro l2 l4 V  h
    unfold f_X7_count_L80 at h
    refine q_go 2 (pc' := 83) (ls' := [.ref 96, .int l1, .int l2, .int l3, .int l4]) (st' := [.int l3, .int l4]) (V' := V) rfl ?_
    by_cases hc7 : l3 ≤ l4
    · rw [if_pos hc7] at h
      refine q_icmp rfl (fun _ => ?_) (fun c => absurd hc7 (of_decide_eq_false c))
      exact hk l2 l4 V  h
    · rw [if_neg hc7] at h
      refine q_icmp rfl (fun c => absurd (of_decide_eq_true c) hc7) (fun _ => ?_)
      refine q_go 6 (pc' := 95) (ls' := [.ref 96, .int l1, .int l2, .int l3, .int l4]) (st' := [.int ((20 : Int32) + l3), .ref 103, .int l2]) (V' := V) rfl ?_
      refine x_em (p := x_in ((20 : Int32) + l3) 27 = true) (fun hz => by rw [if_neg hz] at h; cases h) (fun hc8 => ?_)
      rw [if_pos hc8] at h
      refine q_ald (Or.inl ⟨rfl, rfl⟩) rfl hc8 ?_
      refine q_go 1 (pc' := 98) (ls' := [.ref 96, .int l1, .int l2, .int l3, .int l4]) (st' := [.int l4, .int (V 103 (((20 : Int32) + l3).toNatClampNeg)), .int l2]) (V' := V) rfl ?_
      obtain ⟨x11, V10, hc9, h⟩ := x_b2_eq h
      refine q_call (d := (0)) (as := [.int (V 103 (((20 : Int32) + l3).toNatClampNeg)), .int l4]) (pc' := 101) (ls' := [.ref 96, .int l1, .int l2, .int l3, .int l4]) (st' := [.int l2]) (r1 := some x11) rfl rfl ((f_X7_has_ok hc9).up (by decide)) ?_
      by_cases hc12 : x11 = 0
      · rw [if_pos hc12] at h
        refine q_if rfl (fun _ => ?_) (fun c => absurd hc12 (of_decide_eq_false c))
        refine q_go 5 (pc' := 80) (ls' := [.ref 96, .int l1, .int (l2 + 0), .int l3, .int (l4 + (1 : Int32))]) (st' := []) (V' := V10) rfl ?_
        exact ih (l2 + 0) (l4 + (1 : Int32)) V10  h
      · rw [if_neg hc12] at h
        refine q_if rfl (fun c => absurd (of_decide_eq_true c) hc12) (fun _ => ?_)
        refine q_go 6 (pc' := 80) (ls' := [.ref 96, .int l1, .int (l2 + 1), .int l3, .int (l4 + (1 : Int32))]) (st' := []) (V' := V10) rfl ?_
        exact ih (l2 + 1) (l4 + (1 : Int32)) V10  h
def f_X7_count_L69 (l1 : Int32) : Nat → (Int32 → Int32 → xV → Option (Int32 × xV)) → Int32 → Int32 → xV → Option (Int32 × xV)
  | 0, _, _, _, _ => none
  | n + 1, k, l2, l3, V => if (V 96 8) ≤ l3 then (k l2 l3 V) else (f_X7_count_L80 l1 l3 300 (fun l2_13 l4_14 V15 => f_X7_count_L69 l1 n k l2_13 (l3 + (1 : Int32)) V15) l2 (0 : Int32) V)
theorem f_X7_count_L69_ok (l1 : Int32) {k : Int32 → Int32 → xV → Option (Int32 × xV)} {x : Int32} {W : xV} (hk : ∀ (l2 : Int32) (l3 : Int32) (V : xV) (g4 : Value), k l2 l3 V = some (x, W) → x_Ex (1) kX7_count 123 [.ref 96, .int l1, .int l2, .int l3, g4] [] V (some x) W) : ∀ (n : Nat) (l2 : Int32) (l3 : Int32) (V : xV) (g4 : Value), f_X7_count_L69 l1 n k l2 l3 V = some (x, W) → x_Ex (1) kX7_count 69 [.ref 96, .int l1, .int l2, .int l3, g4] [] V (some x) W := by
  intro n
  induction n with
  | zero => intro l2 l3 V g4 h; cases h
  | succ n ih =>
    intro l2 l3 V g4 h
    unfold f_X7_count_L69 at h
    refine q_go 3 (pc' := 74) (ls' := [.ref 96, .int l1, .int l2, .int l3, g4]) (st' := [.int (V 96 8), .int l3]) (V' := V) rfl ?_
    by_cases hc6 : (V 96 8) ≤ l3
    · rw [if_pos hc6] at h
      refine q_icmp rfl (fun _ => ?_) (fun c => absurd hc6 (of_decide_eq_false c))
      exact hk l2 l3 V g4 h
    · rw [if_neg hc6] at h
      refine q_icmp rfl (fun c => absurd (of_decide_eq_true c) hc6) (fun _ => ?_)
      refine q_go 2 (pc' := 80) (ls' := [.ref 96, .int l1, .int l2, .int l3, .int (0 : Int32)]) (st' := []) (V' := V) rfl ?_
      refine f_X7_count_L80_ok l1 l3 (fun l2_13 l4_14 V15 h => ?_) 300 l2 (0 : Int32) V  h
      refine q_go 2 (pc' := 69) (ls' := [.ref 96, .int l1, .int l2_13, .int (l3 + (1 : Int32)), .int l4_14]) (st' := []) (V' := V15) rfl ?_
      exact ih l2_13 (l3 + (1 : Int32)) V15 (.int l4_14) h
def f_X7_count (a0 : Int32) (V : xV) : Option (Int32 × xV) := x_b2 (f_X7_in a0 (0 : Int32) (7 : Int32) (x_up V 96 0 (0 : Int32))) (fun x3 V2 => if x3 = 0 then (some ((-1 : Int32), V2)) else (if (4 : Int32) ≤ a0 then (f_X7_count_L69 a0 300 (fun l2_16 l3_17 V18 => if a0 = (4 : Int32) then (some (l2_16, V18)) else (if a0 = (5 : Int32) then (some ((V18 96 27), V18)) else (if a0 = (6 : Int32) then (some ((V18 96 2), V18)) else (some ((V18 96 23), V18))))) (0 : Int32) (0 : Int32) V2) else (if a0 = 0 then (some ((V2 96 8), V2)) else (if a0 = (1 : Int32) then (some ((V2 96 9), V2)) else (if a0 = (2 : Int32) then (some ((V2 96 10), V2)) else (some ((V2 103 26), V2)))))))
theorem f_X7_count_ok {a0 : Int32} {V W : xV} {x : Int32} (h : f_X7_count a0 V = some (x, W)) : x_Rn (1) 146 [.ref 96, .int a0] V (some x) W := by
  refine ⟨5, kX7_count, rfl, ?_⟩
  show x_Ex (1) kX7_count 0 [.ref 96, .int a0, .long 0, .long 0, .long 0] [] V (some x) W
  unfold f_X7_count at h
  refine q_go 6 (pc' := 9) (ls' := [.ref 96, .int a0, .long 0, .long 0, .long 0]) (st' := [.int (7 : Int32), .int (0 : Int32), .int a0]) (V' := (x_up V 96 0 (0 : Int32))) rfl ?_
  obtain ⟨x3, V2, hc1, h⟩ := x_b2_eq h
  refine q_call (d := (0)) (as := [.int a0, .int (0 : Int32), .int (7 : Int32)]) (pc' := 12) (ls' := [.ref 96, .int a0, .long 0, .long 0, .long 0]) (st' := []) (r1 := some x3) rfl rfl ((f_X7_in_ok hc1).up (by decide)) ?_
  by_cases hc4 : x3 = 0
  · rw [if_pos hc4] at h
    refine q_if rfl (fun c => absurd hc4 (of_decide_eq_true c)) (fun _ => ?_)
    refine q_go 1 (pc' := 16) (ls' := [.ref 96, .int a0, .long 0, .long 0, .long 0]) (st' := [.int (-1 : Int32)]) (V' := V2) rfl ?_
    obtain ⟨rfl, rfl⟩ := x_p2 h
    exact q_ret rfl rfl
  · rw [if_neg hc4] at h
    refine q_if rfl (fun _ => ?_) (fun c => absurd hc4 (of_decide_eq_false c))
    refine q_go 2 (pc' := 19) (ls' := [.ref 96, .int a0, .long 0, .long 0, .long 0]) (st' := [.int (4 : Int32), .int a0]) (V' := V2) rfl ?_
    by_cases hc5 : (4 : Int32) ≤ a0
    · rw [if_pos hc5] at h
      refine q_icmp rfl (fun _ => ?_) (fun c => absurd hc5 (of_decide_eq_false c))
      refine q_go 4 (pc' := 69) (ls' := [.ref 96, .int a0, .int (0 : Int32), .int (0 : Int32), .long 0]) (st' := []) (V' := V2) rfl ?_
      refine f_X7_count_L69_ok a0 (fun l2_16 l3_17 V18 g4_19 h => ?_) 300 (0 : Int32) (0 : Int32) V2 (.long 0) h
      refine q_go 2 (pc' := 125) (ls' := [.ref 96, .int a0, .int l2_16, .int l3_17, g4_19]) (st' := [.int (4 : Int32), .int a0]) (V' := V18) rfl ?_
      by_cases hc20 : a0 = (4 : Int32)
      · rw [if_pos hc20] at h
        refine q_icmp rfl (fun c => absurd hc20 (of_decide_eq_true c)) (fun _ => ?_)
        refine q_go 2 (pc' := 161) (ls' := [.ref 96, .int a0, .int l2_16, .int l3_17, g4_19]) (st' := [.int l2_16]) (V' := V18) rfl ?_
        obtain ⟨rfl, rfl⟩ := x_p2 h
        exact q_ret rfl rfl
      · rw [if_neg hc20] at h
        refine q_icmp rfl (fun _ => ?_) (fun c => absurd hc20 (of_decide_eq_false c))
        refine q_go 2 (pc' := 134) (ls' := [.ref 96, .int a0, .int l2_16, .int l3_17, g4_19]) (st' := [.int (5 : Int32), .int a0]) (V' := V18) rfl ?_
        by_cases hc21 : a0 = (5 : Int32)
        · rw [if_pos hc21] at h
          refine q_icmp rfl (fun c => absurd hc21 (of_decide_eq_true c)) (fun _ => ?_)
          refine q_go 3 (pc' := 161) (ls' := [.ref 96, .int a0, .int l2_16, .int l3_17, g4_19]) (st' := [.int (V18 96 27)]) (V' := V18) rfl ?_
          obtain ⟨rfl, rfl⟩ := x_p2 h
          exact q_ret rfl rfl
        · rw [if_neg hc21] at h
          refine q_icmp rfl (fun _ => ?_) (fun c => absurd hc21 (of_decide_eq_false c))
          refine q_go 2 (pc' := 147) (ls' := [.ref 96, .int a0, .int l2_16, .int l3_17, g4_19]) (st' := [.int (6 : Int32), .int a0]) (V' := V18) rfl ?_
          by_cases hc22 : a0 = (6 : Int32)
          · rw [if_pos hc22] at h
            refine q_icmp rfl (fun c => absurd hc22 (of_decide_eq_true c)) (fun _ => ?_)
            refine q_go 3 (pc' := 161) (ls' := [.ref 96, .int a0, .int l2_16, .int l3_17, g4_19]) (st' := [.int (V18 96 2)]) (V' := V18) rfl ?_
            obtain ⟨rfl, rfl⟩ := x_p2 h
            exact q_ret rfl rfl
          · rw [if_neg hc22] at h
            refine q_icmp rfl (fun _ => ?_) (fun c => absurd hc22 (of_decide_eq_false c))
            refine q_go 2 (pc' := 161) (ls' := [.ref 96, .int a0, .int l2_16, .int l3_17, g4_19]) (st' := [.int (V18 96 23)]) (V' := V18) rfl ?_
            obtain ⟨rfl, rfl⟩ := x_p2 h
            exact q_ret rfl rfl
    · rw [if_neg hc5] at h
      refine q_icmp rfl (fun c => absurd (of_decide_eq_true c) hc5) (fun _ => ?_)
      refine q_go 1 (pc' := 23) (ls' := [.ref 96, .int a0, .long 0, .long 0, .long 0]) (st' := [.int a0]) (V' := V2) rfl ?_
      by_cases hc23 : a0 = 0
      · rw [if_pos hc23] at h
        refine q_if rfl (fun c => absurd hc23 (of_decide_eq_true c)) (fun _ => ?_)
        refine q_go 3 (pc' := 64) (ls' := [.ref 96, .int a0, .long 0, .long 0, .long 0]) (st' := [.int (V2 96 8)]) (V' := V2) rfl ?_
        obtain ⟨rfl, rfl⟩ := x_p2 h
        exact q_ret rfl rfl
      · rw [if_neg hc23] at h
        refine q_if rfl (fun _ => ?_) (fun c => absurd hc23 (of_decide_eq_false c))
        refine q_go 2 (pc' := 35) (ls' := [.ref 96, .int a0, .long 0, .long 0, .long 0]) (st' := [.int (1 : Int32), .int a0]) (V' := V2) rfl ?_
        by_cases hc24 : a0 = (1 : Int32)
        · rw [if_pos hc24] at h
          refine q_icmp rfl (fun c => absurd hc24 (of_decide_eq_true c)) (fun _ => ?_)
          refine q_go 3 (pc' := 64) (ls' := [.ref 96, .int a0, .long 0, .long 0, .long 0]) (st' := [.int (V2 96 9)]) (V' := V2) rfl ?_
          obtain ⟨rfl, rfl⟩ := x_p2 h
          exact q_ret rfl rfl
        · rw [if_neg hc24] at h
          refine q_icmp rfl (fun _ => ?_) (fun c => absurd hc24 (of_decide_eq_false c))
          refine q_go 2 (pc' := 47) (ls' := [.ref 96, .int a0, .long 0, .long 0, .long 0]) (st' := [.int (2 : Int32), .int a0]) (V' := V2) rfl ?_
          by_cases hc25 : a0 = (2 : Int32)
          · rw [if_pos hc25] at h
            refine q_icmp rfl (fun c => absurd hc25 (of_decide_eq_true c)) (fun _ => ?_)
            refine q_go 3 (pc' := 64) (ls' := [.ref 96, .int a0, .long 0, .long 0, .long 0]) (st' := [.int (V2 96 10)]) (V' := V2) rfl ?_
            obtain ⟨rfl, rfl⟩ := x_p2 h
            exact q_ret rfl rfl
          · rw [if_neg hc25] at h
            refine q_icmp rfl (fun _ => ?_) (fun c => absurd hc25 (of_decide_eq_false c))
            refine q_go 3 (pc' := 63) (ls' := [.ref 96, .int a0, .long 0, .long 0, .long 0]) (st' := [.int (26 : Int32), .ref 103]) (V' := V2) rfl ?_
            refine q_ald (Or.inl ⟨rfl, rfl⟩) rfl rfl ?_
            obtain ⟨rfl, rfl⟩ := x_p2 h
            exact q_ret rfl rfl
