def f_X4_isOn_5 (a0 : Int32) (V : xV) : Option (Int32 × xV) := if (((V 5 4) >>> (a0 &&& 31)) &&& 1) = (1 : Int32) then (some ((1 : Int32), V)) else (some ((0 : Int32), V))
theorem f_X4_isOn_5_ok {a0 : Int32} {V W : xV} {x : Int32} (h : f_X4_isOn_5 a0 V = some (x, W)) : x_Rn (0) 53 [.ref 5, .int a0] V (some x) W := by
  refine ⟨2, kX4_isOn, rfl, ?_⟩
  show x_Ex (0) kX4_isOn 0 [.ref 5, .int a0] [] V (some x) W
  unfold f_X4_isOn_5 at h
  refine q_go 7 (pc' := 9) (ls' := [.ref 5, .int a0]) (st' := [.int (1 : Int32), .int (((V 5 4) >>> (a0 &&& 31)) &&& 1)]) (V' := V) rfl ?_
  by_cases hc1 : (((V 5 4) >>> (a0 &&& 31)) &&& 1) = (1 : Int32)
  · rw [if_pos hc1] at h
    refine q_icmp rfl (fun c => absurd hc1 (of_decide_eq_true c)) (fun _ => ?_)
    refine q_go 2 (pc' := 17) (ls' := [.ref 5, .int a0]) (st' := [.int (1 : Int32)]) (V' := V) rfl ?_
    obtain ⟨rfl, rfl⟩ := x_p2 h
    exact q_ret rfl rfl
  · rw [if_neg hc1] at h
    refine q_icmp rfl (fun _ => ?_) (fun c => absurd hc1 (of_decide_eq_false c))
    refine q_go 1 (pc' := 17) (ls' := [.ref 5, .int a0]) (st' := [.int (0 : Int32)]) (V' := V) rfl ?_
    obtain ⟨rfl, rfl⟩ := x_p2 h
    exact q_ret rfl rfl
def f_X4_barredNow_5 (a0 : Int32) (V : xV) : Option (Int32 × xV) := x_b2 (f_X4_isOn_5 (2 : Int32) V) (fun x3 V2 => if x3 = 0 then (some ((0 : Int32), V2)) else (if x_in a0 6 = true then (some ((V2 9 (a0.toNatClampNeg)), V2)) else none))
theorem f_X4_barredNow_5_ok {a0 : Int32} {V W : xV} {x : Int32} (h : f_X4_barredNow_5 a0 V = some (x, W)) : x_Rn (1) 49 [.ref 5, .int a0] V (some x) W := by
  refine ⟨2, kX4_barredNow, rfl, ?_⟩
  show x_Ex (1) kX4_barredNow 0 [.ref 5, .int a0] [] V (some x) W
  unfold f_X4_barredNow_5 at h
  refine q_go 2 (pc' := 2) (ls' := [.ref 5, .int a0]) (st' := [.int (2 : Int32), .ref 5]) (V' := V) rfl ?_
  obtain ⟨x3, V2, hc1, h⟩ := x_b2_eq h
  refine q_call (d := (0)) (as := [.ref 5, .int (2 : Int32)]) (pc' := 5) (ls' := [.ref 5, .int a0]) (st' := []) (r1 := some x3) rfl rfl ((f_X4_isOn_5_ok hc1).up (by decide)) ?_
  by_cases hc4 : x3 = 0
  · rw [if_pos hc4] at h
    refine q_if rfl (fun _ => ?_) (fun c => absurd hc4 (of_decide_eq_false c))
    refine q_go 1 (pc' := 18) (ls' := [.ref 5, .int a0]) (st' := [.int (0 : Int32)]) (V' := V2) rfl ?_
    obtain ⟨rfl, rfl⟩ := x_p2 h
    exact q_ret rfl rfl
  · rw [if_neg hc4] at h
    refine q_if rfl (fun c => absurd (of_decide_eq_true c) hc4) (fun _ => ?_)
    refine q_go 3 (pc' := 13) (ls' := [.ref 5, .int a0]) (st' := [.int a0, .ref 9]) (V' := V2) rfl ?_
    refine x_em (p := x_in a0 6 = true) (fun hz => by rw [if_neg hz] at h; cases h) (fun hc5 => ?_)
    rw [if_pos hc5] at h
    refine q_ald (Or.inl ⟨rfl, rfl⟩) rfl hc5 ?_
    refine q_go 1 (pc' := 18) (ls' := [.ref 5, .int a0]) (st' := [.int (V2 9 (a0.toNatClampNeg))]) (V' := V2) rfl ?_
    obtain ⟨rfl, rfl⟩ := x_p2 h
    exact q_ret rfl rfl
def f_X3_slotOf_2 (a0 : Int32) (a1 : Int32) (V : xV) : Option (Int32 × xV) := some (((a0 * (V 2 2)) + a1), V)
theorem f_X3_slotOf_2_ok {a0 : Int32} {a1 : Int32} {V W : xV} {x : Int32} (h : f_X3_slotOf_2 a0 a1 V = some (x, W)) : x_Rn (0) 40 [.ref 2, .int a0, .int a1] V (some x) W := by
  refine ⟨3, kX3_slotOf, rfl, ?_⟩
  show x_Ex (0) kX3_slotOf 0 [.ref 2, .int a0, .int a1] [] V (some x) W
  unfold f_X3_slotOf_2 at h
  refine q_go 6 (pc' := 8) (ls' := [.ref 2, .int a0, .int a1]) (st' := [.int ((a0 * (V 2 2)) + a1)]) (V' := V) rfl ?_
  obtain ⟨rfl, rfl⟩ := x_p2 h
  exact q_ret rfl rfl
def f_X2_thingsThatBear_L4 (l1 : Int32) : Nat → (Int32 → Int32 → xV → Option (Int32 × xV)) → Int32 → Int32 → xV → Option (Int32 × xV)
  | 0, _, _, _, _ => none
  | n + 1, k, l2, l3, V => if (V 2 0) ≤ l3 then (k l2 l3 V) else (if x_in l3 6 = true then (if (V 79 (l3.toNatClampNeg)) < l1 then (f_X2_thingsThatBear_L4 l1 n k l2 (l3 + (1 : Int32)) V) else (f_X2_thingsThatBear_L4 l1 n k (l2 ||| ((1 : Int32) <<< (l3 &&& 31))) (l3 + (1 : Int32)) V)) else none)
theorem f_X2_thingsThatBear_L4_ok (l1 : Int32) {k : Int32 → Int32 → xV → Option (Int32 × xV)} {x : Int32} {W : xV} (hk : ∀ (l2 : Int32) (l3 : Int32) (V : xV), k l2 l3 V = some (x, W) → x_Ex (0) kX2_thingsThatBear 37 [.ref 76, .int l1, .int l2, .int l3] [] V (some x) W) : ∀ (n : Nat) (l2 : Int32) (l3 : Int32) (V : xV), f_X2_thingsThatBear_L4 l1 n k l2 l3 V = some (x, W) → x_Ex (0) kX2_thingsThatBear 4 [.ref 76, .int l1, .int l2, .int l3] [] V (some x) W := by
  intro n
  induction n with
  | zero => intro l2 l3 V  h; cases h
  | succ n ih =>
    intro l2 l3 V  h
    unfold f_X2_thingsThatBear_L4 at h
    refine q_go 4 (pc' := 12) (ls' := [.ref 76, .int l1, .int l2, .int l3]) (st' := [.int (V 2 0), .int l3]) (V' := V) rfl ?_
    by_cases hc1 : (V 2 0) ≤ l3
    · rw [if_pos hc1] at h
      refine q_icmp rfl (fun _ => ?_) (fun c => absurd hc1 (of_decide_eq_false c))
      exact hk l2 l3 V  h
    · rw [if_neg hc1] at h
      refine q_icmp rfl (fun c => absurd (of_decide_eq_true c) hc1) (fun _ => ?_)
      refine q_go 4 (pc' := 21) (ls' := [.ref 76, .int l1, .int l2, .int l3]) (st' := [.int l3, .ref 79, .int l1]) (V' := V) rfl ?_
      refine x_em (p := x_in l3 6 = true) (fun hz => by rw [if_neg hz] at h; cases h) (fun hc2 => ?_)
      rw [if_pos hc2] at h
      refine q_ald (Or.inl ⟨rfl, rfl⟩) rfl hc2 ?_
      by_cases hc3 : (V 79 (l3.toNatClampNeg)) < l1
      · rw [if_pos hc3] at h
        refine q_icmp rfl (fun _ => ?_) (fun c => absurd hc3 (of_decide_eq_false c))
        refine q_go 2 (pc' := 4) (ls' := [.ref 76, .int l1, .int l2, .int (l3 + (1 : Int32))]) (st' := []) (V' := V) rfl ?_
        exact ih l2 (l3 + (1 : Int32)) V  h
      · rw [if_neg hc3] at h
        refine q_icmp rfl (fun c => absurd (of_decide_eq_true c) hc3) (fun _ => ?_)
        refine q_go 8 (pc' := 4) (ls' := [.ref 76, .int l1, .int (l2 ||| ((1 : Int32) <<< (l3 &&& 31))), .int (l3 + (1 : Int32))]) (st' := []) (V' := V) rfl ?_
        exact ih (l2 ||| ((1 : Int32) <<< (l3 &&& 31))) (l3 + (1 : Int32)) V  h
def f_X2_thingsThatBear (a0 : Int32) (V : xV) : Option (Int32 × xV) := f_X2_thingsThatBear_L4 a0 300 (fun l2_4 l3_5 V6 => some (l2_4, V6)) (0 : Int32) (0 : Int32) V
theorem f_X2_thingsThatBear_ok {a0 : Int32} {V W : xV} {x : Int32} (h : f_X2_thingsThatBear a0 V = some (x, W)) : x_Rn (0) 29 [.ref 76, .int a0] V (some x) W := by
  refine ⟨4, kX2_thingsThatBear, rfl, ?_⟩
  show x_Ex (0) kX2_thingsThatBear 0 [.ref 76, .int a0, .long 0, .long 0] [] V (some x) W
  unfold f_X2_thingsThatBear at h
  refine q_go 4 (pc' := 4) (ls' := [.ref 76, .int a0, .int (0 : Int32), .int (0 : Int32)]) (st' := []) (V' := V) rfl ?_
  refine f_X2_thingsThatBear_L4_ok a0 (fun l2_4 l3_5 V6 h => ?_) 300 (0 : Int32) (0 : Int32) V  h
  refine q_go 1 (pc' := 38) (ls' := [.ref 76, .int a0, .int l2_4, .int l3_5]) (st' := [.int l2_4]) (V' := V6) rfl ?_
  obtain ⟨rfl, rfl⟩ := x_p2 h
  exact q_ret rfl rfl
def f_X4_awayNow_5_L4 (l1 : Int32) : Nat → (Int32 → Int32 → xV → Option (Int32 × xV)) → Int32 → Int32 → xV → Option (Int32 × xV)
  | 0, _, _, _, _ => none
  | n + 1, k, l2, l3, V => if (6 : Int32) ≤ l3 then (k l2 l3 V) else (x_b2 (f_X4_isOn_5 (1 : Int32) V) (fun x4 V3 => if x4 = 0 then (k l2 l3 V3) else (if x_in l3 6 = true then (if l1 < (V3 7 (l3.toNatClampNeg)) then (f_X4_awayNow_5_L4 l1 n k l2 (l3 + (1 : Int32)) V3) else (if (V3 8 (l3.toNatClampNeg)) < l1 then (f_X4_awayNow_5_L4 l1 n k l2 (l3 + (1 : Int32)) V3) else (f_X4_awayNow_5_L4 l1 n k (l2 ||| ((1 : Int32) <<< (l3 &&& 31))) (l3 + (1 : Int32)) V3))) else none)))
theorem f_X4_awayNow_5_L4_ok (l1 : Int32) {k : Int32 → Int32 → xV → Option (Int32 × xV)} {x : Int32} {W : xV} (hk : ∀ (l2 : Int32) (l3 : Int32) (V : xV), k l2 l3 V = some (x, W) → x_Ex (1) kX4_awayNow 50 [.ref 5, .int l1, .int l2, .int l3] [] V (some x) W) : ∀ (n : Nat) (l2 : Int32) (l3 : Int32) (V : xV), f_X4_awayNow_5_L4 l1 n k l2 l3 V = some (x, W) → x_Ex (1) kX4_awayNow 4 [.ref 5, .int l1, .int l2, .int l3] [] V (some x) W := by
  intro n
  induction n with
  | zero => intro l2 l3 V  h; cases h
  | succ n ih =>
    intro l2 l3 V  h
    unfold f_X4_awayNow_5_L4 at h
    refine q_go 2 (pc' := 7) (ls' := [.ref 5, .int l1, .int l2, .int l3]) (st' := [.int (6 : Int32), .int l3]) (V' := V) rfl ?_
    by_cases hc1 : (6 : Int32) ≤ l3
    · rw [if_pos hc1] at h
      refine q_icmp rfl (fun _ => ?_) (fun c => absurd hc1 (of_decide_eq_false c))
      exact hk l2 l3 V  h
    · rw [if_neg hc1] at h
      refine q_icmp rfl (fun c => absurd (of_decide_eq_true c) hc1) (fun _ => ?_)
      refine q_go 2 (pc' := 12) (ls' := [.ref 5, .int l1, .int l2, .int l3]) (st' := [.int (1 : Int32), .ref 5]) (V' := V) rfl ?_
      obtain ⟨x4, V3, hc2, h⟩ := x_b2_eq h
      refine q_call (d := (0)) (as := [.ref 5, .int (1 : Int32)]) (pc' := 15) (ls' := [.ref 5, .int l1, .int l2, .int l3]) (st' := []) (r1 := some x4) rfl rfl ((f_X4_isOn_5_ok hc2).up (by decide)) ?_
      by_cases hc5 : x4 = 0
      · rw [if_pos hc5] at h
        refine q_if rfl (fun _ => ?_) (fun c => absurd hc5 (of_decide_eq_false c))
        exact hk l2 l3 V3  h
      · rw [if_neg hc5] at h
        refine q_if rfl (fun c => absurd (of_decide_eq_true c) hc5) (fun _ => ?_)
        refine q_go 3 (pc' := 23) (ls' := [.ref 5, .int l1, .int l2, .int l3]) (st' := [.int l3, .ref 7]) (V' := V3) rfl ?_
        refine x_em (p := x_in l3 6 = true) (fun hz => by rw [if_neg hz] at h; cases h) (fun hc6 => ?_)
        rw [if_pos hc6] at h
        refine q_ald (Or.inl ⟨rfl, rfl⟩) rfl hc6 ?_
        refine q_go 1 (pc' := 25) (ls' := [.ref 5, .int l1, .int l2, .int l3]) (st' := [.int l1, .int (V3 7 (l3.toNatClampNeg))]) (V' := V3) rfl ?_
        by_cases hc7 : l1 < (V3 7 (l3.toNatClampNeg))
        · rw [if_pos hc7] at h
          refine q_icmp rfl (fun _ => ?_) (fun c => absurd hc7 (of_decide_eq_false c))
          refine q_go 2 (pc' := 4) (ls' := [.ref 5, .int l1, .int l2, .int (l3 + (1 : Int32))]) (st' := []) (V' := V3) rfl ?_
          exact ih l2 (l3 + (1 : Int32)) V3  h
        · rw [if_neg hc7] at h
          refine q_icmp rfl (fun c => absurd (of_decide_eq_true c) hc7) (fun _ => ?_)
          refine q_go 4 (pc' := 34) (ls' := [.ref 5, .int l1, .int l2, .int l3]) (st' := [.int l3, .ref 8, .int l1]) (V' := V3) rfl ?_
          refine q_ald (Or.inl ⟨rfl, rfl⟩) rfl hc6 ?_
          by_cases hc8 : (V3 8 (l3.toNatClampNeg)) < l1
          · rw [if_pos hc8] at h
            refine q_icmp rfl (fun _ => ?_) (fun c => absurd hc8 (of_decide_eq_false c))
            refine q_go 2 (pc' := 4) (ls' := [.ref 5, .int l1, .int l2, .int (l3 + (1 : Int32))]) (st' := []) (V' := V3) rfl ?_
            exact ih l2 (l3 + (1 : Int32)) V3  h
          · rw [if_neg hc8] at h
            refine q_icmp rfl (fun c => absurd (of_decide_eq_true c) hc8) (fun _ => ?_)
            refine q_go 8 (pc' := 4) (ls' := [.ref 5, .int l1, .int (l2 ||| ((1 : Int32) <<< (l3 &&& 31))), .int (l3 + (1 : Int32))]) (st' := []) (V' := V3) rfl ?_
            exact ih (l2 ||| ((1 : Int32) <<< (l3 &&& 31))) (l3 + (1 : Int32)) V3  h
def f_X4_awayNow_5 (a0 : Int32) (V : xV) : Option (Int32 × xV) := f_X4_awayNow_5_L4 a0 300 (fun l2_9 l3_10 V11 => some (l2_9, V11)) (0 : Int32) (0 : Int32) V
theorem f_X4_awayNow_5_ok {a0 : Int32} {V W : xV} {x : Int32} (h : f_X4_awayNow_5 a0 V = some (x, W)) : x_Rn (1) 47 [.ref 5, .int a0] V (some x) W := by
  refine ⟨4, kX4_awayNow, rfl, ?_⟩
  show x_Ex (1) kX4_awayNow 0 [.ref 5, .int a0, .long 0, .long 0] [] V (some x) W
  unfold f_X4_awayNow_5 at h
  refine q_go 4 (pc' := 4) (ls' := [.ref 5, .int a0, .int (0 : Int32), .int (0 : Int32)]) (st' := []) (V' := V) rfl ?_
  refine f_X4_awayNow_5_L4_ok a0 (fun l2_9 l3_10 V11 h => ?_) 300 (0 : Int32) (0 : Int32) V  h
  refine q_go 1 (pc' := 51) (ls' := [.ref 5, .int a0, .int l2_9, .int l3_10]) (st' := [.int l2_9]) (V' := V11) rfl ?_
  obtain ⟨rfl, rfl⟩ := x_p2 h
  exact q_ret rfl rfl
def f_X4_wantedNow_5 (a0 : Int32) (V : xV) : Option (Int32 × xV) := x_b2 (f_X4_isOn_5 (3 : Int32) V) (fun x3 V2 => if x3 = 0 then (some ((63 : Int32), V2)) else (if x_in a0 8 = true then (if (V2 6 (a0.toNatClampNeg)) = (-9 : Int32) then (some ((63 : Int32), V2)) else (some (((1 : Int32) <<< ((V2 6 (a0.toNatClampNeg)) &&& 31)), V2))) else none))
theorem f_X4_wantedNow_5_ok {a0 : Int32} {V W : xV} {x : Int32} (h : f_X4_wantedNow_5 a0 V = some (x, W)) : x_Rn (1) 48 [.ref 5, .int a0] V (some x) W := by
  refine ⟨2, kX4_wantedNow, rfl, ?_⟩
  show x_Ex (1) kX4_wantedNow 0 [.ref 5, .int a0] [] V (some x) W
  unfold f_X4_wantedNow_5 at h
  refine q_go 2 (pc' := 2) (ls' := [.ref 5, .int a0]) (st' := [.int (3 : Int32), .ref 5]) (V' := V) rfl ?_
  obtain ⟨x3, V2, hc1, h⟩ := x_b2_eq h
  refine q_call (d := (0)) (as := [.ref 5, .int (3 : Int32)]) (pc' := 5) (ls' := [.ref 5, .int a0]) (st' := []) (r1 := some x3) rfl rfl ((f_X4_isOn_5_ok hc1).up (by decide)) ?_
  by_cases hc4 : x3 = 0
  · rw [if_pos hc4] at h
    refine q_if rfl (fun _ => ?_) (fun c => absurd hc4 (of_decide_eq_false c))
    refine q_go 1 (pc' := 32) (ls' := [.ref 5, .int a0]) (st' := [.int (63 : Int32)]) (V' := V2) rfl ?_
    obtain ⟨rfl, rfl⟩ := x_p2 h
    exact q_ret rfl rfl
  · rw [if_neg hc4] at h
    refine q_if rfl (fun c => absurd (of_decide_eq_true c) hc4) (fun _ => ?_)
    refine q_go 3 (pc' := 13) (ls' := [.ref 5, .int a0]) (st' := [.int a0, .ref 6]) (V' := V2) rfl ?_
    refine x_em (p := x_in a0 8 = true) (fun hz => by rw [if_neg hz] at h; cases h) (fun hc5 => ?_)
    rw [if_pos hc5] at h
    refine q_ald (Or.inl ⟨rfl, rfl⟩) rfl hc5 ?_
    refine q_go 1 (pc' := 16) (ls' := [.ref 5, .int a0]) (st' := [.int (-9 : Int32), .int (V2 6 (a0.toNatClampNeg))]) (V' := V2) rfl ?_
    by_cases hc6 : (V2 6 (a0.toNatClampNeg)) = (-9 : Int32)
    · rw [if_pos hc6] at h
      refine q_icmp rfl (fun _ => ?_) (fun c => absurd hc6 (of_decide_eq_false c))
      refine q_go 1 (pc' := 32) (ls' := [.ref 5, .int a0]) (st' := [.int (63 : Int32)]) (V' := V2) rfl ?_
      obtain ⟨rfl, rfl⟩ := x_p2 h
      exact q_ret rfl rfl
    · rw [if_neg hc6] at h
      refine q_icmp rfl (fun c => absurd (of_decide_eq_true c) hc6) (fun _ => ?_)
      refine q_go 4 (pc' := 25) (ls' := [.ref 5, .int a0]) (st' := [.int a0, .ref 6, .int (1 : Int32)]) (V' := V2) rfl ?_
      refine q_ald (Or.inl ⟨rfl, rfl⟩) rfl hc5 ?_
      refine q_go 2 (pc' := 32) (ls' := [.ref 5, .int a0]) (st' := [.int ((1 : Int32) <<< ((V2 6 (a0.toNatClampNeg)) &&& 31))]) (V' := V2) rfl ?_
      obtain ⟨rfl, rfl⟩ := x_p2 h
      exact q_ret rfl rfl
def f_X2_withPartner_L5 (l1 : Int32) (l2 : Int32) : Nat → (Int32 → Int32 → xV → Option (Int32 × xV)) → Int32 → Int32 → xV → Option (Int32 × xV)
  | 0, _, _, _, _ => none
  | n + 1, k, l3, l4, V => if (V 2 0) ≤ l4 then (k l3 l4 V) else (if ((l1 >>> (l4 &&& 31)) &&& 1) = (1 : Int32) then (if x_in l4 6 = true then (if (l2 &&& ((V 80 (l4.toNatClampNeg)) ^^^ (-1 : Int32))) = 0 then (f_X2_withPartner_L5 l1 l2 n k l3 (l4 + (1 : Int32)) V) else (f_X2_withPartner_L5 l1 l2 n k (l3 ||| ((1 : Int32) <<< (l4 &&& 31))) (l4 + (1 : Int32)) V)) else none) else (f_X2_withPartner_L5 l1 l2 n k l3 (l4 + (1 : Int32)) V))
theorem f_X2_withPartner_L5_ok (l1 : Int32) (l2 : Int32) {k : Int32 → Int32 → xV → Option (Int32 × xV)} {x : Int32} {W : xV} (hk : ∀ (l3 : Int32) (l4 : Int32) (V : xV), k l3 l4 V = some (x, W) → x_Ex (0) kX2_withPartner 54 [.ref 76, .int l1, .int l2, .int l3, .int l4] [] V (some x) W) : ∀ (n : Nat) (l3 : Int32) (l4 : Int32) (V : xV), f_X2_withPartner_L5 l1 l2 n k l3 l4 V = some (x, W) → x_Ex (0) kX2_withPartner 5 [.ref 76, .int l1, .int l2, .int l3, .int l4] [] V (some x) W := by
  intro n
  induction n with
  | zero => intro l3 l4 V  h; cases h
  | succ n ih =>
    intro l3 l4 V  h
    unfold f_X2_withPartner_L5 at h
    refine q_go 4 (pc' := 14) (ls' := [.ref 76, .int l1, .int l2, .int l3, .int l4]) (st' := [.int (V 2 0), .int l4]) (V' := V) rfl ?_
    by_cases hc1 : (V 2 0) ≤ l4
    · rw [if_pos hc1] at h
      refine q_icmp rfl (fun _ => ?_) (fun c => absurd hc1 (of_decide_eq_false c))
      exact hk l3 l4 V  h
    · rw [if_neg hc1] at h
      refine q_icmp rfl (fun c => absurd (of_decide_eq_true c) hc1) (fun _ => ?_)
      refine q_go 6 (pc' := 24) (ls' := [.ref 76, .int l1, .int l2, .int l3, .int l4]) (st' := [.int (1 : Int32), .int ((l1 >>> (l4 &&& 31)) &&& 1)]) (V' := V) rfl ?_
      by_cases hc2 : ((l1 >>> (l4 &&& 31)) &&& 1) = (1 : Int32)
      · rw [if_pos hc2] at h
        refine q_icmp rfl (fun c => absurd hc2 (of_decide_eq_true c)) (fun _ => ?_)
        refine q_go 4 (pc' := 34) (ls' := [.ref 76, .int l1, .int l2, .int l3, .int l4]) (st' := [.int l4, .ref 80, .int l2]) (V' := V) rfl ?_
        refine x_em (p := x_in l4 6 = true) (fun hz => by rw [if_neg hz] at h; cases h) (fun hc3 => ?_)
        rw [if_pos hc3] at h
        refine q_ald (Or.inl ⟨rfl, rfl⟩) rfl hc3 ?_
        refine q_go 3 (pc' := 38) (ls' := [.ref 76, .int l1, .int l2, .int l3, .int l4]) (st' := [.int (l2 &&& ((V 80 (l4.toNatClampNeg)) ^^^ (-1 : Int32)))]) (V' := V) rfl ?_
        by_cases hc4 : (l2 &&& ((V 80 (l4.toNatClampNeg)) ^^^ (-1 : Int32))) = 0
        · rw [if_pos hc4] at h
          refine q_if rfl (fun _ => ?_) (fun c => absurd hc4 (of_decide_eq_false c))
          refine q_go 2 (pc' := 5) (ls' := [.ref 76, .int l1, .int l2, .int l3, .int (l4 + (1 : Int32))]) (st' := []) (V' := V) rfl ?_
          exact ih l3 (l4 + (1 : Int32)) V  h
        · rw [if_neg hc4] at h
          refine q_if rfl (fun c => absurd (of_decide_eq_true c) hc4) (fun _ => ?_)
          refine q_go 8 (pc' := 5) (ls' := [.ref 76, .int l1, .int l2, .int (l3 ||| ((1 : Int32) <<< (l4 &&& 31))), .int (l4 + (1 : Int32))]) (st' := []) (V' := V) rfl ?_
          exact ih (l3 ||| ((1 : Int32) <<< (l4 &&& 31))) (l4 + (1 : Int32)) V  h
      · rw [if_neg hc2] at h
        refine q_icmp rfl (fun _ => ?_) (fun c => absurd hc2 (of_decide_eq_false c))
        refine q_go 2 (pc' := 5) (ls' := [.ref 76, .int l1, .int l2, .int l3, .int (l4 + (1 : Int32))]) (st' := []) (V' := V) rfl ?_
        exact ih l3 (l4 + (1 : Int32)) V  h
def f_X2_withPartner (a0 : Int32) (a1 : Int32) (V : xV) : Option (Int32 × xV) := f_X2_withPartner_L5 a0 a1 300 (fun l3_5 l4_6 V7 => some (l3_5, V7)) (0 : Int32) (0 : Int32) V
theorem f_X2_withPartner_ok {a0 : Int32} {a1 : Int32} {V W : xV} {x : Int32} (h : f_X2_withPartner a0 a1 V = some (x, W)) : x_Rn (0) 28 [.ref 76, .int a0, .int a1] V (some x) W := by
  refine ⟨5, kX2_withPartner, rfl, ?_⟩
  show x_Ex (0) kX2_withPartner 0 [.ref 76, .int a0, .int a1, .long 0, .long 0] [] V (some x) W
  unfold f_X2_withPartner at h
  refine q_go 4 (pc' := 5) (ls' := [.ref 76, .int a0, .int a1, .int (0 : Int32), .int (0 : Int32)]) (st' := []) (V' := V) rfl ?_
  refine f_X2_withPartner_L5_ok a0 a1 (fun l3_5 l4_6 V7 h => ?_) 300 (0 : Int32) (0 : Int32) V  h
  refine q_go 1 (pc' := 55) (ls' := [.ref 76, .int a0, .int a1, .int l3_5, .int l4_6]) (st' := [.int l3_5]) (V' := V7) rfl ?_
  obtain ⟨rfl, rfl⟩ := x_p2 h
  exact q_ret rfl rfl
def f_X2_openSeason_L33 (l1 : Int32) (l2 : Int32) (l3 : Int32) (l4 : Int32) : Nat → (Int32 → xV → Option (xV)) → Int32 → xV → Option (xV)
  | 0, _, _, _ => none
  | n + 1, k, l5, V => if (V 2 2) ≤ l5 then (k l5 V) else (if x_in l1 4 = true then (if x_in (l2 + l5) 8 = true then (x_b2 (f_X3_slotOf_2 l1 l5 (x_up V 78 ((l2 + l5).toNatClampNeg) (V 4 (l1.toNatClampNeg)))) (fun x13 V12 => x_b2 (f_X4_wantedNow_5 x13 V12) (fun x16 V15 => f_X2_openSeason_L33 l1 l2 l3 l4 n k (l5 + (1 : Int32)) (x_up V15 77 ((l2 + l5).toNatClampNeg) (l4 &&& x16))))) else none) else none)
theorem f_X2_openSeason_L33_ok (l1 : Int32) (l2 : Int32) (l3 : Int32) (l4 : Int32) {k : Int32 → xV → Option (xV)}  {W : xV} (hk : ∀ (l5 : Int32) (V : xV), k l5 V = some W → x_Ex (2) kX2_openSeason 98 [.ref 76, .int l1, .int l2, .int l3, .int l4, .int l5] [] V none W) : ∀ (n : Nat) (l5 : Int32) (V : xV), f_X2_openSeason_L33 l1 l2 l3 l4 n k l5 V = some W → x_Ex (2) kX2_openSeason 33 [.ref 76, .int l1, .int l2, .int l3, .int l4, .int l5] [] V none W := by
  intro n
  induction n with
  | zero => intro l5 V  h; cases h
  | succ n ih =>
    intro l5 V  h
    unfold f_X2_openSeason_L33 at h
    refine q_go 4 (pc' := 42) (ls' := [.ref 76, .int l1, .int l2, .int l3, .int l4, .int l5]) (st' := [.int (V 2 2), .int l5]) (V' := V) rfl ?_
    by_cases hc8 : (V 2 2) ≤ l5
    · rw [if_pos hc8] at h
      refine q_icmp rfl (fun _ => ?_) (fun c => absurd hc8 (of_decide_eq_false c))
      exact hk l5 V  h
    · rw [if_neg hc8] at h
      refine q_icmp rfl (fun c => absurd (of_decide_eq_true c) hc8) (fun _ => ?_)
      refine q_go 9 (pc' := 61) (ls' := [.ref 76, .int l1, .int l2, .int l3, .int l4, .int l5]) (st' := [.int l1, .ref 4, .int (l2 + l5), .ref 78]) (V' := V) rfl ?_
      refine x_em (p := x_in l1 4 = true) (fun hz => by rw [if_neg hz] at h; cases h) (fun hc9 => ?_)
      rw [if_pos hc9] at h
      refine q_ald (Or.inl ⟨rfl, rfl⟩) rfl hc9 ?_
      refine x_em (p := x_in (l2 + l5) 8 = true) (fun hz => by rw [if_neg hz] at h; cases h) (fun hc10 => ?_)
      rw [if_pos hc10] at h
      refine q_ast rfl rfl hc10 ?_
      refine q_go 12 (pc' := 84) (ls' := [.ref 76, .int l1, .int l2, .int l3, .int l4, .int l5]) (st' := [.int l5, .int l1, .ref 2, .ref 5, .int l4, .int (l2 + l5), .ref 77]) (V' := (x_up V 78 ((l2 + l5).toNatClampNeg) (V 4 (l1.toNatClampNeg)))) rfl ?_
      obtain ⟨x13, V12, hc11, h⟩ := x_b2_eq h
      refine q_call (d := (1)) (as := [.ref 2, .int l1, .int l5]) (pc' := 87) (ls' := [.ref 76, .int l1, .int l2, .int l3, .int l4, .int l5]) (st' := [.ref 5, .int l4, .int (l2 + l5), .ref 77]) (r1 := some x13) rfl rfl ((f_X3_slotOf_2_ok hc11).up (by decide)) ?_
      obtain ⟨x16, V15, hc14, h⟩ := x_b2_eq h
      refine q_call (d := (1)) (as := [.ref 5, .int x13]) (pc' := 90) (ls' := [.ref 76, .int l1, .int l2, .int l3, .int l4, .int l5]) (st' := [.int l4, .int (l2 + l5), .ref 77]) (r1 := some x16) rfl rfl ((f_X4_wantedNow_5_ok hc14).up (by decide)) ?_
      refine q_go 1 (pc' := 91) (ls' := [.ref 76, .int l1, .int l2, .int l3, .int l4, .int l5]) (st' := [.int (l4 &&& x16), .int (l2 + l5), .ref 77]) (V' := V15) rfl ?_
      refine q_ast rfl rfl hc10 ?_
      refine q_go 2 (pc' := 33) (ls' := [.ref 76, .int l1, .int l2, .int l3, .int l4, .int (l5 + (1 : Int32))]) (st' := []) (V' := (x_up V15 77 ((l2 + l5).toNatClampNeg) (l4 &&& x16))) rfl ?_
      exact ih (l5 + (1 : Int32)) (x_up V15 77 ((l2 + l5).toNatClampNeg) (l4 &&& x16))  h
def f_X2_openSeason (a0 : Int32) (a1 : Int32) (a2 : Int32) (V : xV) : Option (xV) := if x_in a0 4 = true then (x_b2 (f_X2_thingsThatBear (V 4 (a0.toNatClampNeg)) V) (fun x4 V3 => x_b2 (f_X4_awayNow_5 a0 V3) (fun x7 V6 => f_X2_openSeason_L33 a0 a1 a2 ((x4 &&& (x7 ^^^ (-1 : Int32))) &&& (a2 ^^^ (-1 : Int32))) 300 (fun l5_17 V18 => if (V18 2 2) = (2 : Int32) then (if x_in a1 8 = true then (if x_in (a1 + 1) 8 = true then (x_b2 (f_X2_withPartner (V18 77 (a1.toNatClampNeg)) (V18 77 ((a1 + 1).toNatClampNeg)) V18) (fun x24 V23 => x_b2 (f_X2_withPartner ((x_up V23 77 (a1.toNatClampNeg) x24) 77 ((a1 + 1).toNatClampNeg)) ((x_up V23 77 (a1.toNatClampNeg) x24) 77 (a1.toNatClampNeg)) (x_up V23 77 (a1.toNatClampNeg) x24)) (fun x27 V26 => some (x_up V26 77 ((a1 + 1).toNatClampNeg) x27)))) else none) else none) else (some V18)) (0 : Int32) V6))) else none
theorem f_X2_openSeason_ok {a0 : Int32} {a1 : Int32} {a2 : Int32} {V W : xV}  (h : f_X2_openSeason a0 a1 a2 V = some W) : x_Rn (2) 27 [.ref 76, .int a0, .int a1, .int a2] V none W := by
  refine ⟨6, kX2_openSeason, rfl, ?_⟩
  show x_Ex (2) kX2_openSeason 0 [.ref 76, .int a0, .int a1, .int a2, .long 0, .long 0] [] V none W
  unfold f_X2_openSeason at h
  refine q_go 5 (pc' := 9) (ls' := [.ref 76, .int a0, .int a1, .int a2, .long 0, .long 0]) (st' := [.int a0, .ref 4, .ref 76]) (V' := V) rfl ?_
  refine x_em (p := x_in a0 4 = true) (fun hz => by rw [if_neg hz] at h; cases h) (fun hc1 => ?_)
  rw [if_pos hc1] at h
  refine q_ald (Or.inl ⟨rfl, rfl⟩) rfl hc1 ?_
  obtain ⟨x4, V3, hc2, h⟩ := x_b2_eq h
  refine q_call (d := (1)) (as := [.ref 76, .int (V 4 (a0.toNatClampNeg))]) (pc' := 13) (ls' := [.ref 76, .int a0, .int a1, .int a2, .long 0, .long 0]) (st' := []) (r1 := some x4) rfl rfl ((f_X2_thingsThatBear_ok hc2).up (by decide)) ?_
  refine q_go 3 (pc' := 18) (ls' := [.ref 76, .int a0, .int a1, .int a2, .long 0, .long 0]) (st' := [.int a0, .ref 5, .int x4]) (V' := V3) rfl ?_
  obtain ⟨x7, V6, hc5, h⟩ := x_b2_eq h
  refine q_call (d := (1)) (as := [.ref 5, .int a0]) (pc' := 21) (ls' := [.ref 76, .int a0, .int a1, .int a2, .long 0, .long 0]) (st' := [.int x4]) (r1 := some x7) rfl rfl ((f_X4_awayNow_5_ok hc5).up (by decide)) ?_
  refine q_go 10 (pc' := 33) (ls' := [.ref 76, .int a0, .int a1, .int a2, .int ((x4 &&& (x7 ^^^ (-1 : Int32))) &&& (a2 ^^^ (-1 : Int32))), .int (0 : Int32)]) (st' := []) (V' := V6) rfl ?_
  refine f_X2_openSeason_L33_ok a0 a1 a2 ((x4 &&& (x7 ^^^ (-1 : Int32))) &&& (a2 ^^^ (-1 : Int32))) (fun l5_17 V18 h => ?_) 300 (0 : Int32) V6  h
  refine q_go 4 (pc' := 106) (ls' := [.ref 76, .int a0, .int a1, .int a2, .int ((x4 &&& (x7 ^^^ (-1 : Int32))) &&& (a2 ^^^ (-1 : Int32))), .int l5_17]) (st' := [.int (2 : Int32), .int (V18 2 2)]) (V' := V18) rfl ?_
  by_cases hc19 : (V18 2 2) = (2 : Int32)
  · rw [if_pos hc19] at h
    refine q_icmp rfl (fun c => absurd hc19 (of_decide_eq_true c)) (fun _ => ?_)
    refine q_go 7 (pc' := 120) (ls' := [.ref 76, .int a0, .int a1, .int a2, .int ((x4 &&& (x7 ^^^ (-1 : Int32))) &&& (a2 ^^^ (-1 : Int32))), .int l5_17]) (st' := [.int a1, .ref 77, .ref 76, .int a1, .ref 77]) (V' := V18) rfl ?_
    refine x_em (p := x_in a1 8 = true) (fun hz => by rw [if_neg hz] at h; cases h) (fun hc20 => ?_)
    rw [if_pos hc20] at h
    refine q_ald (Or.inl ⟨rfl, rfl⟩) rfl hc20 ?_
    refine q_go 5 (pc' := 128) (ls' := [.ref 76, .int a0, .int a1, .int a2, .int ((x4 &&& (x7 ^^^ (-1 : Int32))) &&& (a2 ^^^ (-1 : Int32))), .int l5_17]) (st' := [.int (a1 + 1), .ref 77, .int (V18 77 (a1.toNatClampNeg)), .ref 76, .int a1, .ref 77]) (V' := V18) rfl ?_
    refine x_em (p := x_in (a1 + 1) 8 = true) (fun hz => by rw [if_neg hz] at h; cases h) (fun hc21 => ?_)
    rw [if_pos hc21] at h
    refine q_ald (Or.inl ⟨rfl, rfl⟩) rfl hc21 ?_
    obtain ⟨x24, V23, hc22, h⟩ := x_b2_eq h
    refine q_call (d := (1)) (as := [.ref 76, .int (V18 77 (a1.toNatClampNeg)), .int (V18 77 ((a1 + 1).toNatClampNeg))]) (pc' := 132) (ls' := [.ref 76, .int a0, .int a1, .int a2, .int ((x4 &&& (x7 ^^^ (-1 : Int32))) &&& (a2 ^^^ (-1 : Int32))), .int l5_17]) (st' := [.int a1, .ref 77]) (r1 := some x24) rfl rfl ((f_X2_withPartner_ok hc22).up (by decide)) ?_
    refine q_ast rfl rfl hc20 ?_
    refine q_go 11 (pc' := 148) (ls' := [.ref 76, .int a0, .int a1, .int a2, .int ((x4 &&& (x7 ^^^ (-1 : Int32))) &&& (a2 ^^^ (-1 : Int32))), .int l5_17]) (st' := [.int (a1 + 1), .ref 77, .ref 76, .int (a1 + 1), .ref 77]) (V' := (x_up V23 77 (a1.toNatClampNeg) x24)) rfl ?_
    refine q_ald (Or.inl ⟨rfl, rfl⟩) rfl hc21 ?_
    refine q_go 3 (pc' := 154) (ls' := [.ref 76, .int a0, .int a1, .int a2, .int ((x4 &&& (x7 ^^^ (-1 : Int32))) &&& (a2 ^^^ (-1 : Int32))), .int l5_17]) (st' := [.int a1, .ref 77, .int ((x_up V23 77 (a1.toNatClampNeg) x24) 77 ((a1 + 1).toNatClampNeg)), .ref 76, .int (a1 + 1), .ref 77]) (V' := (x_up V23 77 (a1.toNatClampNeg) x24)) rfl ?_
    refine q_ald (Or.inl ⟨rfl, rfl⟩) rfl hc20 ?_
    obtain ⟨x27, V26, hc25, h⟩ := x_b2_eq h
    refine q_call (d := (1)) (as := [.ref 76, .int ((x_up V23 77 (a1.toNatClampNeg) x24) 77 ((a1 + 1).toNatClampNeg)), .int ((x_up V23 77 (a1.toNatClampNeg) x24) 77 (a1.toNatClampNeg))]) (pc' := 158) (ls' := [.ref 76, .int a0, .int a1, .int a2, .int ((x4 &&& (x7 ^^^ (-1 : Int32))) &&& (a2 ^^^ (-1 : Int32))), .int l5_17]) (st' := [.int (a1 + 1), .ref 77]) (r1 := some x27) rfl rfl ((f_X2_withPartner_ok hc25).up (by decide)) ?_
    refine q_ast rfl rfl hc21 ?_
    obtain rfl := Option.some.inj h
    exact q_ret rfl rfl
  · rw [if_neg hc19] at h
    refine q_icmp rfl (fun _ => ?_) (fun c => absurd hc19 (of_decide_eq_false c))
    obtain rfl := Option.some.inj h
    exact q_ret rfl rfl
def f_X3_rankByLight_2_L4 (l1 : Int32) : Nat → (Int32 → Int32 → xV → Option (Int32 × xV)) → Int32 → Int32 → xV → Option (Int32 × xV)
  | 0, _, _, _, _ => none
  | n + 1, k, l2, l3, V => if (V 2 1) ≤ l3 then (k l2 l3 V) else (if x_in l3 4 = true then (if x_in l1 4 = true then (if (V 4 (l1.toNatClampNeg)) < (V 4 (l3.toNatClampNeg)) then (f_X3_rankByLight_2_L4 l1 n k (l2 + (1 : Int32)) (l3 + (1 : Int32)) V) else (if (V 4 (l3.toNatClampNeg)) = (V 4 (l1.toNatClampNeg)) then (if l1 ≤ l3 then (f_X3_rankByLight_2_L4 l1 n k l2 (l3 + (1 : Int32)) V) else (f_X3_rankByLight_2_L4 l1 n k (l2 + (1 : Int32)) (l3 + (1 : Int32)) V)) else (f_X3_rankByLight_2_L4 l1 n k l2 (l3 + (1 : Int32)) V))) else none) else none)
theorem f_X3_rankByLight_2_L4_ok (l1 : Int32) {k : Int32 → Int32 → xV → Option (Int32 × xV)} {x : Int32} {W : xV} (hk : ∀ (l2 : Int32) (l3 : Int32) (V : xV), k l2 l3 V = some (x, W) → x_Ex (0) kX3_rankByLight 56 [.ref 2, .int l1, .int l2, .int l3] [] V (some x) W) : ∀ (n : Nat) (l2 : Int32) (l3 : Int32) (V : xV), f_X3_rankByLight_2_L4 l1 n k l2 l3 V = some (x, W) → x_Ex (0) kX3_rankByLight 4 [.ref 2, .int l1, .int l2, .int l3] [] V (some x) W := by
  intro n
  induction n with
  | zero => intro l2 l3 V  h; cases h
  | succ n ih =>
    intro l2 l3 V  h
    unfold f_X3_rankByLight_2_L4 at h
    refine q_go 3 (pc' := 9) (ls' := [.ref 2, .int l1, .int l2, .int l3]) (st' := [.int (V 2 1), .int l3]) (V' := V) rfl ?_
    by_cases hc1 : (V 2 1) ≤ l3
    · rw [if_pos hc1] at h
      refine q_icmp rfl (fun _ => ?_) (fun c => absurd hc1 (of_decide_eq_false c))
      exact hk l2 l3 V  h
    · rw [if_neg hc1] at h
      refine q_icmp rfl (fun c => absurd (of_decide_eq_true c) hc1) (fun _ => ?_)
      refine q_go 3 (pc' := 17) (ls' := [.ref 2, .int l1, .int l2, .int l3]) (st' := [.int l3, .ref 4]) (V' := V) rfl ?_
      refine x_em (p := x_in l3 4 = true) (fun hz => by rw [if_neg hz] at h; cases h) (fun hc2 => ?_)
      rw [if_pos hc2] at h
      refine q_ald (Or.inl ⟨rfl, rfl⟩) rfl hc2 ?_
      refine q_go 3 (pc' := 23) (ls' := [.ref 2, .int l1, .int l2, .int l3]) (st' := [.int l1, .ref 4, .int (V 4 (l3.toNatClampNeg))]) (V' := V) rfl ?_
      refine x_em (p := x_in l1 4 = true) (fun hz => by rw [if_neg hz] at h; cases h) (fun hc3 => ?_)
      rw [if_pos hc3] at h
      refine q_ald (Or.inl ⟨rfl, rfl⟩) rfl hc3 ?_
      by_cases hc4 : (V 4 (l1.toNatClampNeg)) < (V 4 (l3.toNatClampNeg))
      · rw [if_pos hc4] at h
        refine q_icmp rfl (fun _ => ?_) (fun c => absurd hc4 (of_decide_eq_false c))
        refine q_go 3 (pc' := 4) (ls' := [.ref 2, .int l1, .int (l2 + (1 : Int32)), .int (l3 + (1 : Int32))]) (st' := []) (V' := V) rfl ?_
        exact ih (l2 + (1 : Int32)) (l3 + (1 : Int32)) V  h
      · rw [if_neg hc4] at h
        refine q_icmp rfl (fun c => absurd (of_decide_eq_true c) hc4) (fun _ => ?_)
        refine q_go 3 (pc' := 32) (ls' := [.ref 2, .int l1, .int l2, .int l3]) (st' := [.int l3, .ref 4]) (V' := V) rfl ?_
        refine q_ald (Or.inl ⟨rfl, rfl⟩) rfl hc2 ?_
        refine q_go 3 (pc' := 38) (ls' := [.ref 2, .int l1, .int l2, .int l3]) (st' := [.int l1, .ref 4, .int (V 4 (l3.toNatClampNeg))]) (V' := V) rfl ?_
        refine q_ald (Or.inl ⟨rfl, rfl⟩) rfl hc3 ?_
        by_cases hc5 : (V 4 (l3.toNatClampNeg)) = (V 4 (l1.toNatClampNeg))
        · rw [if_pos hc5] at h
          refine q_icmp rfl (fun c => absurd hc5 (of_decide_eq_true c)) (fun _ => ?_)
          refine q_go 2 (pc' := 44) (ls' := [.ref 2, .int l1, .int l2, .int l3]) (st' := [.int l1, .int l3]) (V' := V) rfl ?_
          by_cases hc6 : l1 ≤ l3
          · rw [if_pos hc6] at h
            refine q_icmp rfl (fun _ => ?_) (fun c => absurd hc6 (of_decide_eq_false c))
            refine q_go 2 (pc' := 4) (ls' := [.ref 2, .int l1, .int l2, .int (l3 + (1 : Int32))]) (st' := []) (V' := V) rfl ?_
            exact ih l2 (l3 + (1 : Int32)) V  h
          · rw [if_neg hc6] at h
            refine q_icmp rfl (fun c => absurd (of_decide_eq_true c) hc6) (fun _ => ?_)
            refine q_go 3 (pc' := 4) (ls' := [.ref 2, .int l1, .int (l2 + (1 : Int32)), .int (l3 + (1 : Int32))]) (st' := []) (V' := V) rfl ?_
            exact ih (l2 + (1 : Int32)) (l3 + (1 : Int32)) V  h
        · rw [if_neg hc5] at h
          refine q_icmp rfl (fun _ => ?_) (fun c => absurd hc5 (of_decide_eq_false c))
          refine q_go 2 (pc' := 4) (ls' := [.ref 2, .int l1, .int l2, .int (l3 + (1 : Int32))]) (st' := []) (V' := V) rfl ?_
          exact ih l2 (l3 + (1 : Int32)) V  h
def f_X3_rankByLight_2 (a0 : Int32) (V : xV) : Option (Int32 × xV) := f_X3_rankByLight_2_L4 a0 300 (fun l2_7 l3_8 V9 => some (l2_7, V9)) (0 : Int32) (0 : Int32) V
theorem f_X3_rankByLight_2_ok {a0 : Int32} {V W : xV} {x : Int32} (h : f_X3_rankByLight_2 a0 V = some (x, W)) : x_Rn (0) 41 [.ref 2, .int a0] V (some x) W := by
  refine ⟨4, kX3_rankByLight, rfl, ?_⟩
  show x_Ex (0) kX3_rankByLight 0 [.ref 2, .int a0, .long 0, .long 0] [] V (some x) W
  unfold f_X3_rankByLight_2 at h
  refine q_go 4 (pc' := 4) (ls' := [.ref 2, .int a0, .int (0 : Int32), .int (0 : Int32)]) (st' := []) (V' := V) rfl ?_
  refine f_X3_rankByLight_2_L4_ok a0 (fun l2_7 l3_8 V9 h => ?_) 300 (0 : Int32) (0 : Int32) V  h
  refine q_go 1 (pc' := 57) (ls' := [.ref 2, .int a0, .int l2_7, .int l3_8]) (st' := [.int l2_7]) (V' := V9) rfl ?_
  obtain ⟨rfl, rfl⟩ := x_p2 h
  exact q_ret rfl rfl
def f_X2_countRuns_L25 (l1 : Int32) : Nat → (Int32 → Int32 → xV → Option (xV)) → Int32 → Int32 → xV → Option (xV)
  | 0, _, _, _, _ => none
  | n + 1, k, l2, l3, V => if (V 2 0) ≤ l3 then (k l2 l3 V) else (if x_in l1 8 = true then (if (((V 77 (l1.toNatClampNeg)) >>> (l3 &&& 31)) &&& 1) = (1 : Int32) then (x_b2 (f_X2_leavesAt l3 l1 (V 78 (l1.toNatClampNeg)) V) (fun x9 V8 => if x_in x9 10 = true then (f_X2_countRuns_L25 l1 n k (if (V8 84 (x9.toNatClampNeg)) < l2 then (V8 84 (x9.toNatClampNeg)) else l2) (l3 + (1 : Int32)) V8) else none)) else (f_X2_countRuns_L25 l1 n k l2 (l3 + (1 : Int32)) V)) else none)
theorem f_X2_countRuns_L25_ok (l1 : Int32) {k : Int32 → Int32 → xV → Option (xV)}  {W : xV} (hk : ∀ (l2 : Int32) (l3 : Int32) (V : xV), k l2 l3 V = some W → x_Ex (1) kX2_countRuns 78 [.ref 76, .int l1, .int l2, .int l3] [] V none W) : ∀ (n : Nat) (l2 : Int32) (l3 : Int32) (V : xV), f_X2_countRuns_L25 l1 n k l2 l3 V = some W → x_Ex (1) kX2_countRuns 25 [.ref 76, .int l1, .int l2, .int l3] [] V none W := by
  intro n
  induction n with
  | zero => intro l2 l3 V  h; cases h
  | succ n ih =>
    intro l2 l3 V  h
    unfold f_X2_countRuns_L25 at h
    refine q_go 4 (pc' := 33) (ls' := [.ref 76, .int l1, .int l2, .int l3]) (st' := [.int (V 2 0), .int l3]) (V' := V) rfl ?_
    by_cases hc4 : (V 2 0) ≤ l3
    · rw [if_pos hc4] at h
      refine q_icmp rfl (fun _ => ?_) (fun c => absurd hc4 (of_decide_eq_false c))
      exact hk l2 l3 V  h
    · rw [if_neg hc4] at h
      refine q_icmp rfl (fun c => absurd (of_decide_eq_true c) hc4) (fun _ => ?_)
      refine q_go 3 (pc' := 41) (ls' := [.ref 76, .int l1, .int l2, .int l3]) (st' := [.int l1, .ref 77]) (V' := V) rfl ?_
      refine x_em (p := x_in l1 8 = true) (fun hz => by rw [if_neg hz] at h; cases h) (fun hc5 => ?_)
      rw [if_pos hc5] at h
      refine q_ald (Or.inl ⟨rfl, rfl⟩) rfl hc5 ?_
      refine q_go 5 (pc' := 47) (ls' := [.ref 76, .int l1, .int l2, .int l3]) (st' := [.int (1 : Int32), .int (((V 77 (l1.toNatClampNeg)) >>> (l3 &&& 31)) &&& 1)]) (V' := V) rfl ?_
      by_cases hc6 : (((V 77 (l1.toNatClampNeg)) >>> (l3 &&& 31)) &&& 1) = (1 : Int32)
      · rw [if_pos hc6] at h
        refine q_icmp rfl (fun c => absurd hc6 (of_decide_eq_true c)) (fun _ => ?_)
        refine q_go 9 (pc' := 63) (ls' := [.ref 76, .int l1, .int l2, .int l3]) (st' := [.int l1, .ref 78, .int l1, .int l3, .ref 76, .ref 84, .int l2]) (V' := V) rfl ?_
        refine q_ald (Or.inl ⟨rfl, rfl⟩) rfl hc5 ?_
        obtain ⟨x9, V8, hc7, h⟩ := x_b2_eq h
        refine q_call (d := (0)) (as := [.ref 76, .int l3, .int l1, .int (V 78 (l1.toNatClampNeg))]) (pc' := 67) (ls' := [.ref 76, .int l1, .int l2, .int l3]) (st' := [.ref 84, .int l2]) (r1 := some x9) rfl rfl ((f_X2_leavesAt_ok hc7).up (by decide)) ?_
        refine x_em (p := x_in x9 10 = true) (fun hz => by rw [if_neg hz] at h; cases h) (fun hc10 => ?_)
        rw [if_pos hc10] at h
        refine q_ald (Or.inl ⟨rfl, rfl⟩) rfl hc10 ?_
        refine q_go 4 (pc' := 25) (ls' := [.ref 76, .int l1, .int (if (V8 84 (x9.toNatClampNeg)) < l2 then (V8 84 (x9.toNatClampNeg)) else l2), .int (l3 + (1 : Int32))]) (st' := []) (V' := V8) rfl ?_
        exact ih (if (V8 84 (x9.toNatClampNeg)) < l2 then (V8 84 (x9.toNatClampNeg)) else l2) (l3 + (1 : Int32)) V8  h
      · rw [if_neg hc6] at h
        refine q_icmp rfl (fun _ => ?_) (fun c => absurd hc6 (of_decide_eq_false c))
        refine q_go 2 (pc' := 25) (ls' := [.ref 76, .int l1, .int l2, .int (l3 + (1 : Int32))]) (st' := []) (V' := V) rfl ?_
        exact ih l2 (l3 + (1 : Int32)) V  h
def f_X2_countRuns_L15 : Nat → (Int32 → xV → Option (xV)) → Int32 → xV → Option (xV)
  | 0, _, _, _ => none
  | n + 1, k, l1, V => if l1 < 0 then (k l1 V) else (f_X2_countRuns_L25 l1 300 (fun l2_11 l3_12 V13 => if x_in l1 10 = true then (f_X2_countRuns_L15 n k (l1 + (-1 : Int32)) (x_up V13 84 (l1.toNatClampNeg) ((1 : Int32) + l2_11))) else none) (1000 : Int32) (0 : Int32) V)
theorem f_X2_countRuns_L15_ok {k : Int32 → xV → Option (xV)}  {W : xV} (hk : ∀ (l1 : Int32) (V : xV) (g2 : Value) (g3 : Value), k l1 V = some W → x_Ex (1) kX2_countRuns 93 [.ref 76, .int l1, g2, g3] [] V none W) : ∀ (n : Nat) (l1 : Int32) (V : xV) (g2 : Value) (g3 : Value), f_X2_countRuns_L15 n k l1 V = some W → x_Ex (1) kX2_countRuns 15 [.ref 76, .int l1, g2, g3] [] V none W := by
  intro n
  induction n with
  | zero => intro l1 V g2 g3 h; cases h
  | succ n ih =>
    intro l1 V g2 g3 h
    unfold f_X2_countRuns_L15 at h
    refine q_go 1 (pc' := 16) (ls' := [.ref 76, .int l1, g2, g3]) (st' := [.int l1]) (V' := V) rfl ?_
    by_cases hc3 : l1 < 0
    · rw [if_pos hc3] at h
      refine q_if rfl (fun _ => ?_) (fun c => absurd hc3 (of_decide_eq_false c))
      exact hk l1 V g2 g3 h
    · rw [if_neg hc3] at h
      refine q_if rfl (fun c => absurd (of_decide_eq_true c) hc3) (fun _ => ?_)
      refine q_go 4 (pc' := 25) (ls' := [.ref 76, .int l1, .int (1000 : Int32), .int (0 : Int32)]) (st' := []) (V' := V) rfl ?_
      refine f_X2_countRuns_L25_ok l1 (fun l2_11 l3_12 V13 h => ?_) 300 (1000 : Int32) (0 : Int32) V  h
      refine q_go 6 (pc' := 86) (ls' := [.ref 76, .int l1, .int l2_11, .int l3_12]) (st' := [.int ((1 : Int32) + l2_11), .int l1, .ref 84]) (V' := V13) rfl ?_
      refine x_em (p := x_in l1 10 = true) (fun hz => by rw [if_neg hz] at h; cases h) (fun hc14 => ?_)
      rw [if_pos hc14] at h
      refine q_ast rfl rfl hc14 ?_
      refine q_go 2 (pc' := 15) (ls' := [.ref 76, .int (l1 + (-1 : Int32)), .int l2_11, .int l3_12]) (st' := []) (V' := (x_up V13 84 (l1.toNatClampNeg) ((1 : Int32) + l2_11))) rfl ?_
      exact ih (l1 + (-1 : Int32)) (x_up V13 84 (l1.toNatClampNeg) ((1 : Int32) + l2_11)) (.int l2_11) (.int l3_12) h
def f_X2_countRuns (V : xV) : Option (xV) := x_b1 (x_filA 84 10 (0 : Int32) V) (fun V2 => f_X2_countRuns_L15 300 (fun l1_15 V16 => some V16) ((V2 76 11) - 1) V2)
theorem f_X2_countRuns_ok {V W : xV}  (h : f_X2_countRuns V = some W) : x_Rn (1) 30 [.ref 76] V none W := by
  refine ⟨4, kX2_countRuns, rfl, ?_⟩
  show x_Ex (1) kX2_countRuns 0 [.ref 76, .long 0, .long 0, .long 0] [] V none W
  unfold f_X2_countRuns at h
  refine q_go 3 (pc' := 5) (ls' := [.ref 76, .long 0, .long 0, .long 0]) (st' := [.int (0 : Int32), .ref 84]) (V' := V) rfl ?_
  obtain ⟨V2, hc1, h⟩ := x_b1_eq h
  refine q_call (d := (0)) (as := [.ref 84, .int (0 : Int32)]) (pc' := 8) (ls' := [.ref 76, .long 0, .long 0, .long 0]) (st' := []) (r1 := none) rfl rfl ((x_filA_ok rfl (by decide) hc1).up (by decide)) ?_
  refine q_go 5 (pc' := 15) (ls' := [.ref 76, .int ((V2 76 11) - 1), .long 0, .long 0]) (st' := []) (V' := V2) rfl ?_
  refine f_X2_countRuns_L15_ok (fun l1_15 V16 g2_17 g3_18 h => ?_) 300 ((V2 76 11) - 1) V2 (.long 0) (.long 0) h
  obtain rfl := Option.some.inj h
  exact q_ret rfl rfl
def f_X2_prepare_L39 (l1 : Int32) (l2 : Int32) (l3 : Int32) : Nat → (Int32 → xV → Option (xV)) → Int32 → xV → Option (xV)
  | 0, _, _, _ => none
  | n + 1, k, l4, V => if (V 2 0) ≤ l4 then (k l4 V) else (if x_in l4 6 = true then (x_b2 (f_X4_isOn_5 (0 : Int32) (x_up V 81 (l4.toNatClampNeg) (0 : Int32))) (fun x6 V5 => if x6 = 0 then (x_b2 (f_X4_barredNow_5 l4 (x_up V5 79 (l4.toNatClampNeg) (1000 : Int32))) (fun x10 V9 => f_X2_prepare_L39 l1 l2 l3 n k (l4 + (1 : Int32)) (x_up V9 80 (l4.toNatClampNeg) (((1 : Int32) <<< (l4 &&& 31)) ||| x10)))) else (x_b2 (f_X4_barredNow_5 l4 (x_up V5 79 (l4.toNatClampNeg) ((V5 3 (l4.toNatClampNeg)) + l2))) (fun x13 V12 => f_X2_prepare_L39 l1 l2 l3 n k (l4 + (1 : Int32)) (x_up V12 80 (l4.toNatClampNeg) (((1 : Int32) <<< (l4 &&& 31)) ||| x13)))))) else none)
theorem f_X2_prepare_L39_ok (l1 : Int32) (l2 : Int32) (l3 : Int32) {k : Int32 → xV → Option (xV)}  {W : xV} (hk : ∀ (l4 : Int32) (V : xV) (g5 : Value), k l4 V = some W → x_Ex (3) kX2_prepare 122 [.ref 76, .int l1, .int l2, .int l3, .int l4, g5] [] V none W) : ∀ (n : Nat) (l4 : Int32) (V : xV) (g5 : Value), f_X2_prepare_L39 l1 l2 l3 n k l4 V = some W → x_Ex (3) kX2_prepare 39 [.ref 76, .int l1, .int l2, .int l3, .int l4, g5] [] V none W := by
  intro n
  induction n with
  | zero => intro l4 V g5 h; cases h
  | succ n ih =>
    intro l4 V g5 h
    unfold f_X2_prepare_L39 at h
    refine q_go 4 (pc' := 48) (ls' := [.ref 76, .int l1, .int l2, .int l3, .int l4, g5]) (st' := [.int (V 2 0), .int l4]) (V' := V) rfl ?_
    by_cases hc2 : (V 2 0) ≤ l4
    · rw [if_pos hc2] at h
      refine q_icmp rfl (fun _ => ?_) (fun c => absurd hc2 (of_decide_eq_false c))
      exact hk l4 V g5 h
    · rw [if_neg hc2] at h
      refine q_icmp rfl (fun c => absurd (of_decide_eq_true c) hc2) (fun _ => ?_)
      refine q_go 4 (pc' := 58) (ls' := [.ref 76, .int l1, .int l2, .int l3, .int l4, g5]) (st' := [.int (0 : Int32), .int l4, .ref 81]) (V' := V) rfl ?_
      refine x_em (p := x_in l4 6 = true) (fun hz => by rw [if_neg hz] at h; cases h) (fun hc3 => ?_)
      rw [if_pos hc3] at h
      refine q_ast rfl rfl hc3 ?_
      refine q_go 6 (pc' := 70) (ls' := [.ref 76, .int l1, .int l2, .int l3, .int l4, g5]) (st' := [.int (0 : Int32), .ref 5, .int l4, .ref 79]) (V' := (x_up V 81 (l4.toNatClampNeg) (0 : Int32))) rfl ?_
      obtain ⟨x6, V5, hc4, h⟩ := x_b2_eq h
      refine q_call (d := (2)) (as := [.ref 5, .int (0 : Int32)]) (pc' := 73) (ls' := [.ref 76, .int l1, .int l2, .int l3, .int l4, g5]) (st' := [.int l4, .ref 79]) (r1 := some x6) rfl rfl ((f_X4_isOn_5_ok hc4).up (by decide)) ?_
      by_cases hc7 : x6 = 0
      · rw [if_pos hc7] at h
        refine q_if rfl (fun _ => ?_) (fun c => absurd hc7 (of_decide_eq_false c))
        refine q_go 1 (pc' := 94) (ls' := [.ref 76, .int l1, .int l2, .int l3, .int l4, g5]) (st' := [.int (1000 : Int32), .int l4, .ref 79]) (V' := V5) rfl ?_
        refine q_ast rfl rfl hc3 ?_
        refine q_go 9 (pc' := 111) (ls' := [.ref 76, .int l1, .int l2, .int l3, .int l4, g5]) (st' := [.int l4, .ref 5, .int ((1 : Int32) <<< (l4 &&& 31)), .int l4, .ref 80]) (V' := (x_up V5 79 (l4.toNatClampNeg) (1000 : Int32))) rfl ?_
        obtain ⟨x10, V9, hc8, h⟩ := x_b2_eq h
        refine q_call (d := (2)) (as := [.ref 5, .int l4]) (pc' := 114) (ls' := [.ref 76, .int l1, .int l2, .int l3, .int l4, g5]) (st' := [.int ((1 : Int32) <<< (l4 &&& 31)), .int l4, .ref 80]) (r1 := some x10) rfl rfl ((f_X4_barredNow_5_ok hc8).up (by decide)) ?_
        refine q_go 1 (pc' := 115) (ls' := [.ref 76, .int l1, .int l2, .int l3, .int l4, g5]) (st' := [.int (((1 : Int32) <<< (l4 &&& 31)) ||| x10), .int l4, .ref 80]) (V' := V9) rfl ?_
        refine q_ast rfl rfl hc3 ?_
        refine q_go 2 (pc' := 39) (ls' := [.ref 76, .int l1, .int l2, .int l3, .int (l4 + (1 : Int32)), g5]) (st' := []) (V' := (x_up V9 80 (l4.toNatClampNeg) (((1 : Int32) <<< (l4 &&& 31)) ||| x10))) rfl ?_
        exact ih (l4 + (1 : Int32)) (x_up V9 80 (l4.toNatClampNeg) (((1 : Int32) <<< (l4 &&& 31)) ||| x10)) g5 h
      · rw [if_neg hc7] at h
        refine q_if rfl (fun c => absurd (of_decide_eq_true c) hc7) (fun _ => ?_)
        refine q_go 4 (pc' := 85) (ls' := [.ref 76, .int l1, .int l2, .int l3, .int l4, g5]) (st' := [.int l4, .ref 3, .int l4, .ref 79]) (V' := V5) rfl ?_
        refine q_ald (Or.inl ⟨rfl, rfl⟩) rfl hc3 ?_
        refine q_go 3 (pc' := 94) (ls' := [.ref 76, .int l1, .int l2, .int l3, .int l4, g5]) (st' := [.int ((V5 3 (l4.toNatClampNeg)) + l2), .int l4, .ref 79]) (V' := V5) rfl ?_
        refine q_ast rfl rfl hc3 ?_
        refine q_go 9 (pc' := 111) (ls' := [.ref 76, .int l1, .int l2, .int l3, .int l4, g5]) (st' := [.int l4, .ref 5, .int ((1 : Int32) <<< (l4 &&& 31)), .int l4, .ref 80]) (V' := (x_up V5 79 (l4.toNatClampNeg) ((V5 3 (l4.toNatClampNeg)) + l2))) rfl ?_
        obtain ⟨x13, V12, hc11, h⟩ := x_b2_eq h
        refine q_call (d := (2)) (as := [.ref 5, .int l4]) (pc' := 114) (ls' := [.ref 76, .int l1, .int l2, .int l3, .int l4, g5]) (st' := [.int ((1 : Int32) <<< (l4 &&& 31)), .int l4, .ref 80]) (r1 := some x13) rfl rfl ((f_X4_barredNow_5_ok hc11).up (by decide)) ?_
        refine q_go 1 (pc' := 115) (ls' := [.ref 76, .int l1, .int l2, .int l3, .int l4, g5]) (st' := [.int (((1 : Int32) <<< (l4 &&& 31)) ||| x13), .int l4, .ref 80]) (V' := V12) rfl ?_
        refine q_ast rfl rfl hc3 ?_
        refine q_go 2 (pc' := 39) (ls' := [.ref 76, .int l1, .int l2, .int l3, .int (l4 + (1 : Int32)), g5]) (st' := []) (V' := (x_up V12 80 (l4.toNatClampNeg) (((1 : Int32) <<< (l4 &&& 31)) ||| x13))) rfl ?_
        exact ih (l4 + (1 : Int32)) (x_up V12 80 (l4.toNatClampNeg) (((1 : Int32) <<< (l4 &&& 31)) ||| x13)) g5 h
def f_X2_prepare_L125 (l1 : Int32) (l2 : Int32) (l3 : Int32) : Nat → (Int32 → xV → Option (xV)) → Int32 → xV → Option (xV)
  | 0, _, _, _ => none
  | n + 1, k, l4, V => if (V 2 1) ≤ l4 then (k l4 V) else (if l3 = 0 then (x_b2 (f_X3_slotOf_2 l4 (0 : Int32) V) (fun x21 V20 => x_b1 (f_X2_openSeason l4 x21 ((1 : Int32) <<< (l1 &&& 31)) V20) (fun V23 => f_X2_prepare_L125 l1 l2 l3 n k (l4 + (1 : Int32)) V23))) else (x_b2 (f_X3_rankByLight_2 l4 V) (fun x26 V25 => x_b2 (f_X3_slotOf_2 x26 (0 : Int32) V25) (fun x29 V28 => x_b1 (f_X2_openSeason l4 x29 ((1 : Int32) <<< (l1 &&& 31)) V28) (fun V31 => f_X2_prepare_L125 l1 l2 l3 n k (l4 + (1 : Int32)) V31)))))
theorem f_X2_prepare_L125_ok (l1 : Int32) (l2 : Int32) (l3 : Int32) {k : Int32 → xV → Option (xV)}  {W : xV} (hk : ∀ (l4 : Int32) (V : xV) (g5 : Value), k l4 V = some W → x_Ex (3) kX2_prepare 182 [.ref 76, .int l1, .int l2, .int l3, .int l4, g5] [] V none W) : ∀ (n : Nat) (l4 : Int32) (V : xV) (g5 : Value), f_X2_prepare_L125 l1 l2 l3 n k l4 V = some W → x_Ex (3) kX2_prepare 125 [.ref 76, .int l1, .int l2, .int l3, .int l4, g5] [] V none W := by
  intro n
  induction n with
  | zero => intro l4 V g5 h; cases h
  | succ n ih =>
    intro l4 V g5 h
    unfold f_X2_prepare_L125 at h
    refine q_go 4 (pc' := 134) (ls' := [.ref 76, .int l1, .int l2, .int l3, .int l4, g5]) (st' := [.int (V 2 1), .int l4]) (V' := V) rfl ?_
    by_cases hc17 : (V 2 1) ≤ l4
    · rw [if_pos hc17] at h
      refine q_icmp rfl (fun _ => ?_) (fun c => absurd hc17 (of_decide_eq_false c))
      exact hk l4 V g5 h
    · rw [if_neg hc17] at h
      refine q_icmp rfl (fun c => absurd (of_decide_eq_true c) hc17) (fun _ => ?_)
      refine q_go 1 (pc' := 138) (ls' := [.ref 76, .int l1, .int l2, .int l3, .int l4, g5]) (st' := [.int l3]) (V' := V) rfl ?_
      by_cases hc18 : l3 = 0
      · rw [if_pos hc18] at h
        refine q_if rfl (fun _ => ?_) (fun c => absurd hc18 (of_decide_eq_false c))
        refine q_go 8 (pc' := 167) (ls' := [.ref 76, .int l1, .int l2, .int l3, .int l4, .int l4]) (st' := [.int (0 : Int32), .int l4, .ref 2, .int l4, .ref 76]) (V' := V) rfl ?_
        obtain ⟨x21, V20, hc19, h⟩ := x_b2_eq h
        refine q_call (d := (2)) (as := [.ref 2, .int l4, .int (0 : Int32)]) (pc' := 170) (ls' := [.ref 76, .int l1, .int l2, .int l3, .int l4, .int l4]) (st' := [.int l4, .ref 76]) (r1 := some x21) rfl rfl ((f_X3_slotOf_2_ok hc19).up (by decide)) ?_
        refine q_go 3 (pc' := 173) (ls' := [.ref 76, .int l1, .int l2, .int l3, .int l4, .int l4]) (st' := [.int ((1 : Int32) <<< (l1 &&& 31)), .int x21, .int l4, .ref 76]) (V' := V20) rfl ?_
        obtain ⟨V23, hc22, h⟩ := x_b1_eq h
        refine q_call (d := (2)) (as := [.ref 76, .int l4, .int x21, .int ((1 : Int32) <<< (l1 &&& 31))]) (pc' := 176) (ls' := [.ref 76, .int l1, .int l2, .int l3, .int l4, .int l4]) (st' := []) (r1 := none) rfl rfl ((f_X2_openSeason_ok hc22).up (by decide)) ?_
        refine q_go 2 (pc' := 125) (ls' := [.ref 76, .int l1, .int l2, .int l3, .int (l4 + (1 : Int32)), .int l4]) (st' := []) (V' := V23) rfl ?_
        exact ih (l4 + (1 : Int32)) V23 (.int l4) h
      · rw [if_neg hc18] at h
        refine q_if rfl (fun c => absurd (of_decide_eq_true c) hc18) (fun _ => ?_)
        refine q_go 3 (pc' := 147) (ls' := [.ref 76, .int l1, .int l2, .int l3, .int l4, g5]) (st' := [.int l4, .ref 2]) (V' := V) rfl ?_
        obtain ⟨x26, V25, hc24, h⟩ := x_b2_eq h
        refine q_call (d := (2)) (as := [.ref 2, .int l4]) (pc' := 150) (ls' := [.ref 76, .int l1, .int l2, .int l3, .int l4, g5]) (st' := []) (r1 := some x26) rfl rfl ((f_X3_rankByLight_2_ok hc24).up (by decide)) ?_
        refine q_go 8 (pc' := 167) (ls' := [.ref 76, .int l1, .int l2, .int l3, .int l4, .int x26]) (st' := [.int (0 : Int32), .int x26, .ref 2, .int l4, .ref 76]) (V' := V25) rfl ?_
        obtain ⟨x29, V28, hc27, h⟩ := x_b2_eq h
        refine q_call (d := (2)) (as := [.ref 2, .int x26, .int (0 : Int32)]) (pc' := 170) (ls' := [.ref 76, .int l1, .int l2, .int l3, .int l4, .int x26]) (st' := [.int l4, .ref 76]) (r1 := some x29) rfl rfl ((f_X3_slotOf_2_ok hc27).up (by decide)) ?_
        refine q_go 3 (pc' := 173) (ls' := [.ref 76, .int l1, .int l2, .int l3, .int l4, .int x26]) (st' := [.int ((1 : Int32) <<< (l1 &&& 31)), .int x29, .int l4, .ref 76]) (V' := V28) rfl ?_
        obtain ⟨V31, hc30, h⟩ := x_b1_eq h
        refine q_call (d := (2)) (as := [.ref 76, .int l4, .int x29, .int ((1 : Int32) <<< (l1 &&& 31))]) (pc' := 176) (ls' := [.ref 76, .int l1, .int l2, .int l3, .int l4, .int x26]) (st' := []) (r1 := none) rfl rfl ((f_X2_openSeason_ok hc30).up (by decide)) ?_
        refine q_go 2 (pc' := 125) (ls' := [.ref 76, .int l1, .int l2, .int l3, .int (l4 + (1 : Int32)), .int x26]) (st' := []) (V' := V31) rfl ?_
        exact ih (l4 + (1 : Int32)) V31 (.int x26) h
def f_X2_prepare (a0 : Int32) (a1 : Int32) (a2 : Int32) (V : xV) : Option (xV) := if a2 = 0 ∨ a2 = 1 then (f_X2_prepare_L39 a0 a1 a2 300 (fun l4_14 V15 => f_X2_prepare_L125 a0 a1 a2 300 (fun l4_32 V33 => x_b1 (f_X2_countRuns V33) (fun V36 => some V36)) (0 : Int32) V15) (0 : Int32) (x_up (x_up (x_up (x_up V 76 14 (0 : Int32)) 76 13 a2) 76 16 (1000 : Int32)) 76 11 ((V 2 1) * (V 2 2)))) else none
theorem f_X2_prepare_ok {a0 : Int32} {a1 : Int32} {a2 : Int32} {V W : xV}  (h : f_X2_prepare a0 a1 a2 V = some W) : x_Rn (3) 26 [.ref 76, .int a0, .int a1, .int a2] V none W := by
  refine ⟨6, kX2_prepare, rfl, ?_⟩
  show x_Ex (3) kX2_prepare 0 [.ref 76, .int a0, .int a1, .int a2, .long 0, .long 0] [] V none W
  unfold f_X2_prepare at h
  refine q_go 5 (pc' := 7) (ls' := [.ref 76, .int a0, .int a1, .int a2, .long 0, .long 0]) (st' := [.int a2, .ref 76]) (V' := (x_up V 76 14 (0 : Int32))) rfl ?_
  refine x_em (p := a2 = 0 ∨ a2 = 1) (fun hz => by rw [if_neg hz] at h; cases h) (fun hc1 => ?_)
  rw [if_pos hc1] at h
  refine q_putz rfl rfl hc1 ?_
  refine q_go 14 (pc' := 39) (ls' := [.ref 76, .int a0, .int a1, .int a2, .int (0 : Int32), .long 0]) (st' := []) (V' := (x_up (x_up (x_up (x_up V 76 14 (0 : Int32)) 76 13 a2) 76 16 (1000 : Int32)) 76 11 ((V 2 1) * (V 2 2)))) rfl ?_
  refine f_X2_prepare_L39_ok a0 a1 a2 (fun l4_14 V15 g5_16 h => ?_) 300 (0 : Int32) (x_up (x_up (x_up (x_up V 76 14 (0 : Int32)) 76 13 a2) 76 16 (1000 : Int32)) 76 11 ((V 2 1) * (V 2 2))) (.long 0) h
  refine q_go 2 (pc' := 125) (ls' := [.ref 76, .int a0, .int a1, .int a2, .int (0 : Int32), g5_16]) (st' := []) (V' := V15) rfl ?_
  refine f_X2_prepare_L125_ok a0 a1 a2 (fun l4_32 V33 g5_34 h => ?_) 300 (0 : Int32) V15 g5_16 h
  refine q_go 1 (pc' := 183) (ls' := [.ref 76, .int a0, .int a1, .int a2, .int l4_32, g5_34]) (st' := [.ref 76]) (V' := V33) rfl ?_
  obtain ⟨V36, hc35, h⟩ := x_b1_eq h
  refine q_call (d := (2)) (as := [.ref 76]) (pc' := 186) (ls' := [.ref 76, .int a0, .int a1, .int a2, .int l4_32, g5_34]) (st' := []) (r1 := none) rfl rfl ((f_X2_countRuns_ok hc35).up (by decide)) ?_
  obtain rfl := Option.some.inj h
  exact q_ret rfl rfl
def f_X2_canBeFilled (a0 : Int32) (a1 : Int32) (V : xV) : Option (Int32 × xV) := x_b1 (f_X2_prepare a0 a1 (1 : Int32) V) (fun V2 => x_b1 (f_fill 10 (0 : Int32) (6 : Int32) (0 : Int32) (x_up V2 76 12 (1 : Int32))) (fun V4 => if (V4 76 14) = 0 ∨ (V4 76 14) = 1 then some ((V4 76 14), V4) else none))
theorem f_X2_canBeFilled_ok {a0 : Int32} {a1 : Int32} {V W : xV} {x : Int32} (h : f_X2_canBeFilled a0 a1 V = some (x, W)) : x_Rn (27) 24 [.ref 76, .int a0, .int a1] V (some x) W := by
  refine ⟨3, kX2_canBeFilled, rfl, ?_⟩
  show x_Ex (27) kX2_canBeFilled 0 [.ref 76, .int a0, .int a1] [] V (some x) W
  unfold f_X2_canBeFilled at h
  refine q_go 4 (pc' := 4) (ls' := [.ref 76, .int a0, .int a1]) (st' := [.int (1 : Int32), .int a1, .int a0, .ref 76]) (V' := V) rfl ?_
  obtain ⟨V2, hc1, h⟩ := x_b1_eq h
  refine q_call (d := (26)) (as := [.ref 76, .int a0, .int a1, .int (1 : Int32)]) (pc' := 7) (ls' := [.ref 76, .int a0, .int a1]) (st' := []) (r1 := none) rfl rfl ((f_X2_prepare_ok hc1).up (by decide)) ?_
  refine q_go 7 (pc' := 17) (ls' := [.ref 76, .int a0, .int a1]) (st' := [.int (0 : Int32), .int (6 : Int32), .int (0 : Int32), .ref 76]) (V' := (x_up V2 76 12 (1 : Int32))) rfl ?_
  obtain ⟨V4, hc3, h⟩ := x_b1_eq h
  refine q_call (d := (26)) (as := [.ref 76, .int (0 : Int32), .int (6 : Int32), .int (0 : Int32)]) (pc' := 20) (ls' := [.ref 76, .int a0, .int a1]) (st' := []) (r1 := none) rfl rfl ((f_fill_ok 10 _ _ _ _ _ hc3).up (by decide)) ?_
  refine q_go 2 (pc' := 24) (ls' := [.ref 76, .int a0, .int a1]) (st' := [.int (V4 76 14)]) (V' := V4) rfl ?_
  refine x_em (p := (V4 76 14) = 0 ∨ (V4 76 14) = 1) (fun hz => by rw [if_neg hz] at h; cases h) (fun hc5 => ?_)
  rw [if_pos hc5] at h
  obtain ⟨rfl, rfl⟩ := x_p2 h
  exact q_retz rfl rfl hc5
def f_X2_fewestChanges_L15 (l1 : Int32) (l2 : Int32) (l3 : Int32) : Nat → (Int32 → xV → Option (Int32 × xV)) → Int32 → xV → Option (Int32 × xV)
  | 0, _, _, _ => none
  | n + 1, k, l4, V => if (6 : Int32) < l4 then (k l4 V) else (x_b1 (f_fill 10 (0 : Int32) l4 (0 : Int32) V) (fun V6 => if (V6 76 14) = 0 then (f_X2_fewestChanges_L15 l1 l2 l3 n k (l4 + (1 : Int32)) V6) else (some (l4, V6))))
theorem f_X2_fewestChanges_L15_ok (l1 : Int32) (l2 : Int32) (l3 : Int32) {k : Int32 → xV → Option (Int32 × xV)} {x : Int32} {W : xV} (hk : ∀ (l4 : Int32) (V : xV), k l4 V = some (x, W) → x_Ex (27) kX2_fewestChanges 46 [.ref 76, .int l1, .int l2, .int l3, .int l4] [] V (some x) W) : ∀ (n : Nat) (l4 : Int32) (V : xV), f_X2_fewestChanges_L15 l1 l2 l3 n k l4 V = some (x, W) → x_Ex (27) kX2_fewestChanges 15 [.ref 76, .int l1, .int l2, .int l3, .int l4] [] V (some x) W := by
  intro n
  induction n with
  | zero => intro l4 V  h; cases h
  | succ n ih =>
    intro l4 V  h
    unfold f_X2_fewestChanges_L15 at h
    refine q_go 2 (pc' := 19) (ls' := [.ref 76, .int l1, .int l2, .int l3, .int l4]) (st' := [.int (6 : Int32), .int l4]) (V' := V) rfl ?_
    by_cases hc4 : (6 : Int32) < l4
    · rw [if_pos hc4] at h
      refine q_icmp rfl (fun _ => ?_) (fun c => absurd hc4 (of_decide_eq_false c))
      exact hk l4 V  h
    · rw [if_neg hc4] at h
      refine q_icmp rfl (fun c => absurd (of_decide_eq_true c) hc4) (fun _ => ?_)
      refine q_go 4 (pc' := 27) (ls' := [.ref 76, .int l1, .int l2, .int l3, .int l4]) (st' := [.int (0 : Int32), .int l4, .int (0 : Int32), .ref 76]) (V' := V) rfl ?_
      obtain ⟨V6, hc5, h⟩ := x_b1_eq h
      refine q_call (d := (26)) (as := [.ref 76, .int (0 : Int32), .int l4, .int (0 : Int32)]) (pc' := 30) (ls' := [.ref 76, .int l1, .int l2, .int l3, .int l4]) (st' := []) (r1 := none) rfl rfl ((f_fill_ok 10 _ _ _ _ _ hc5).up (by decide)) ?_
      refine q_go 2 (pc' := 34) (ls' := [.ref 76, .int l1, .int l2, .int l3, .int l4]) (st' := [.int (V6 76 14)]) (V' := V6) rfl ?_
      by_cases hc7 : (V6 76 14) = 0
      · rw [if_pos hc7] at h
        refine q_if rfl (fun _ => ?_) (fun c => absurd hc7 (of_decide_eq_false c))
        refine q_go 2 (pc' := 15) (ls' := [.ref 76, .int l1, .int l2, .int l3, .int (l4 + (1 : Int32))]) (st' := []) (V' := V6) rfl ?_
        exact ih (l4 + (1 : Int32)) V6  h
      · rw [if_neg hc7] at h
        refine q_if rfl (fun c => absurd (of_decide_eq_true c) hc7) (fun _ => ?_)
        refine q_go 1 (pc' := 39) (ls' := [.ref 76, .int l1, .int l2, .int l3, .int l4]) (st' := [.int l4]) (V' := V6) rfl ?_
        obtain ⟨rfl, rfl⟩ := x_p2 h
        exact q_ret rfl rfl
def f_X2_fewestChanges (a0 : Int32) (a1 : Int32) (a2 : Int32) (V : xV) : Option (Int32 × xV) := x_b1 (f_X2_prepare a0 (0 : Int32) (0 : Int32) V) (fun V2 => if a2 = 0 ∨ a2 = 1 then (f_X2_fewestChanges_L15 a0 a1 a2 300 (fun l4_8 V9 => some ((-9 : Int32), V9)) a1 (x_up V2 76 12 a2)) else none)
theorem f_X2_fewestChanges_ok {a0 : Int32} {a1 : Int32} {a2 : Int32} {V W : xV} {x : Int32} (h : f_X2_fewestChanges a0 a1 a2 V = some (x, W)) : x_Rn (27) 25 [.ref 76, .int a0, .int a1, .int a2] V (some x) W := by
  refine ⟨5, kX2_fewestChanges, rfl, ?_⟩
  show x_Ex (27) kX2_fewestChanges 0 [.ref 76, .int a0, .int a1, .int a2, .long 0] [] V (some x) W
  unfold f_X2_fewestChanges at h
  refine q_go 4 (pc' := 4) (ls' := [.ref 76, .int a0, .int a1, .int a2, .long 0]) (st' := [.int (0 : Int32), .int (0 : Int32), .int a0, .ref 76]) (V' := V) rfl ?_
  obtain ⟨V2, hc1, h⟩ := x_b1_eq h
  refine q_call (d := (26)) (as := [.ref 76, .int a0, .int (0 : Int32), .int (0 : Int32)]) (pc' := 7) (ls' := [.ref 76, .int a0, .int a1, .int a2, .long 0]) (st' := []) (r1 := none) rfl rfl ((f_X2_prepare_ok hc1).up (by decide)) ?_
  refine q_go 2 (pc' := 9) (ls' := [.ref 76, .int a0, .int a1, .int a2, .long 0]) (st' := [.int a2, .ref 76]) (V' := V2) rfl ?_
  refine x_em (p := a2 = 0 ∨ a2 = 1) (fun hz => by rw [if_neg hz] at h; cases h) (fun hc3 => ?_)
  rw [if_pos hc3] at h
  refine q_putz rfl rfl hc3 ?_
  refine q_go 2 (pc' := 15) (ls' := [.ref 76, .int a0, .int a1, .int a2, .int a1]) (st' := []) (V' := (x_up V2 76 12 a2)) rfl ?_
  refine f_X2_fewestChanges_L15_ok a0 a1 a2 (fun l4_8 V9 h => ?_) 300 a1 (x_up V2 76 12 a2)  h
  refine q_go 1 (pc' := 48) (ls' := [.ref 76, .int a0, .int a1, .int a2, .int l4_8]) (st' := [.int (-9 : Int32)]) (V' := V9) rfl ?_
  obtain ⟨rfl, rfl⟩ := x_p2 h
  exact q_ret rfl rfl
