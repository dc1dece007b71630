def f_X2_bestMost (V : xV) : Option (Int32 × xV) := some ((V 76 15), V)
theorem f_X2_bestMost_ok {V W : xV} {x : Int32} (h : f_X2_bestMost V = some (x, W)) : x_Rn (0) 22 [.ref 76] V (some x) W := by
  refine ⟨1, kX2_bestMost, rfl, ?_⟩
  show x_Ex (0) kX2_bestMost 0 [.ref 76] [] V (some x) W
  unfold f_X2_bestMost at h
  refine q_go 2 (pc' := 4) (ls' := [.ref 76]) (st' := [.int (V 76 15)]) (V' := V) rfl ?_
  obtain ⟨rfl, rfl⟩ := x_p2 h
  exact q_ret rfl rfl
def f_X2_copyBestTo (V : xV) : Option (xV) := some (x_cpV V 83 74 8)
theorem f_X2_copyBestTo_ok {V W : xV}  (h : f_X2_copyBestTo V = some W) : x_Rn (0) 23 [.ref 76, .ref 74] V none W := by
  refine ⟨2, kX2_copyBestTo, rfl, ?_⟩
  show x_Ex (0) kX2_copyBestTo 0 [.ref 76, .ref 74] [] V none W
  unfold f_X2_copyBestTo at h
  refine q_go 12 (pc' := 20) (ls' := [.ref 76, .ref 74]) (st' := []) (V' := (x_cpV V 83 74 8)) rfl ?_
  obtain rfl := Option.some.inj h
  exact q_ret rfl rfl
def f_X5_changesNow (V : xV) : Option (Int32 × xV) := if (V 73 5) = (-5 : Int32) then (x_b2 (f_X2_canBeFilled (6 : Int32) (0 : Int32) V) (fun x4 V3 => if x4 = 0 then (x_b2 (f_X2_bestMost (x_up V3 73 5 (-9 : Int32))) (fun x8 V7 => x_b1 (f_X2_copyBestTo (x_up V7 73 6 x8)) (fun V10 => x_b1 (x_filA 75 6 (-5 : Int32) V10) (fun V12 => some ((V12 73 5), V12))))) else (x_b2 (f_X2_fewestChanges (6 : Int32) (0 : Int32) (0 : Int32) V3) (fun x15 V14 => x_b2 (f_X2_bestMost (x_up V14 73 5 x15)) (fun x18 V17 => x_b1 (f_X2_copyBestTo (x_up V17 73 6 x18)) (fun V20 => x_b1 (x_filA 75 6 (-5 : Int32) V20) (fun V22 => some ((V22 73 5), V22)))))))) else (some ((V 73 5), V))
theorem f_X5_changesNow_ok {V W : xV} {x : Int32} (h : f_X5_changesNow V = some (x, W)) : x_Rn (28) 57 [.ref 73] V (some x) W := by
  refine ⟨1, kX5_changesNow, rfl, ?_⟩
  show x_Ex (28) kX5_changesNow 0 [.ref 73] [] V (some x) W
  unfold f_X5_changesNow at h
  refine q_go 3 (pc' := 6) (ls' := [.ref 73]) (st' := [.int (-5 : Int32), .int (V 73 5)]) (V' := V) rfl ?_
  by_cases hc1 : (V 73 5) = (-5 : Int32)
  · rw [if_pos hc1] at h
    refine q_icmp rfl (fun c => absurd hc1 (of_decide_eq_true c)) (fun _ => ?_)
    refine q_go 5 (pc' := 17) (ls' := [.ref 73]) (st' := [.int (0 : Int32), .int (6 : Int32), .ref 76, .ref 73]) (V' := V) rfl ?_
    obtain ⟨x4, V3, hc2, h⟩ := x_b2_eq h
    refine q_call (d := (27)) (as := [.ref 76, .int (6 : Int32), .int (0 : Int32)]) (pc' := 20) (ls' := [.ref 73]) (st' := [.ref 73]) (r1 := some x4) rfl rfl ((f_X2_canBeFilled_ok hc2).up (by decide)) ?_
    by_cases hc5 : x4 = 0
    · rw [if_pos hc5] at h
      refine q_if rfl (fun _ => ?_) (fun c => absurd hc5 (of_decide_eq_false c))
      refine q_go 5 (pc' := 47) (ls' := [.ref 73]) (st' := [.ref 76, .ref 73]) (V' := (x_up V3 73 5 (-9 : Int32))) rfl ?_
      obtain ⟨x8, V7, hc6, h⟩ := x_b2_eq h
      refine q_call (d := (27)) (as := [.ref 76]) (pc' := 50) (ls' := [.ref 73]) (st' := [.ref 73]) (r1 := some x8) rfl rfl ((f_X2_bestMost_ok hc6).up (by decide)) ?_
      refine q_go 5 (pc' := 61) (ls' := [.ref 73]) (st' := [.ref 74, .ref 76]) (V' := (x_up V7 73 6 x8)) rfl ?_
      obtain ⟨V10, hc9, h⟩ := x_b1_eq h
      refine q_call (d := (27)) (as := [.ref 76, .ref 74]) (pc' := 64) (ls' := [.ref 73]) (st' := []) (r1 := none) rfl rfl ((f_X2_copyBestTo_ok hc9).up (by decide)) ?_
      refine q_go 3 (pc' := 70) (ls' := [.ref 73]) (st' := [.int (-5 : Int32), .ref 75]) (V' := V10) rfl ?_
      obtain ⟨V12, hc11, h⟩ := x_b1_eq h
      refine q_call (d := (27)) (as := [.ref 75, .int (-5 : Int32)]) (pc' := 73) (ls' := [.ref 73]) (st' := []) (r1 := none) rfl rfl ((x_filA_ok rfl (by decide) hc11).up (by decide)) ?_
      refine q_go 2 (pc' := 77) (ls' := [.ref 73]) (st' := [.int (V12 73 5)]) (V' := V12) rfl ?_
      obtain ⟨rfl, rfl⟩ := x_p2 h
      exact q_ret rfl rfl
    · rw [if_neg hc5] at h
      refine q_if rfl (fun c => absurd (of_decide_eq_true c) hc5) (fun _ => ?_)
      refine q_go 5 (pc' := 31) (ls' := [.ref 73]) (st' := [.int (0 : Int32), .int (0 : Int32), .int (6 : Int32), .ref 76, .ref 73]) (V' := V3) rfl ?_
      obtain ⟨x15, V14, hc13, h⟩ := x_b2_eq h
      refine q_call (d := (27)) (as := [.ref 76, .int (6 : Int32), .int (0 : Int32), .int (0 : Int32)]) (pc' := 34) (ls' := [.ref 73]) (st' := [.ref 73]) (r1 := some x15) rfl rfl ((f_X2_fewestChanges_ok hc13).up (by decide)) ?_
      refine q_go 5 (pc' := 47) (ls' := [.ref 73]) (st' := [.ref 76, .ref 73]) (V' := (x_up V14 73 5 x15)) rfl ?_
      obtain ⟨x18, V17, hc16, h⟩ := x_b2_eq h
      refine q_call (d := (27)) (as := [.ref 76]) (pc' := 50) (ls' := [.ref 73]) (st' := [.ref 73]) (r1 := some x18) rfl rfl ((f_X2_bestMost_ok hc16).up (by decide)) ?_
      refine q_go 5 (pc' := 61) (ls' := [.ref 73]) (st' := [.ref 74, .ref 76]) (V' := (x_up V17 73 6 x18)) rfl ?_
      obtain ⟨V20, hc19, h⟩ := x_b1_eq h
      refine q_call (d := (27)) (as := [.ref 76, .ref 74]) (pc' := 64) (ls' := [.ref 73]) (st' := []) (r1 := none) rfl rfl ((f_X2_copyBestTo_ok hc19).up (by decide)) ?_
      refine q_go 3 (pc' := 70) (ls' := [.ref 73]) (st' := [.int (-5 : Int32), .ref 75]) (V' := V20) rfl ?_
      obtain ⟨V22, hc21, h⟩ := x_b1_eq h
      refine q_call (d := (27)) (as := [.ref 75, .int (-5 : Int32)]) (pc' := 73) (ls' := [.ref 73]) (st' := []) (r1 := none) rfl rfl ((x_filA_ok rfl (by decide) hc21).up (by decide)) ?_
      refine q_go 2 (pc' := 77) (ls' := [.ref 73]) (st' := [.int (V22 73 5)]) (V' := V22) rfl ?_
      obtain ⟨rfl, rfl⟩ := x_p2 h
      exact q_ret rfl rfl
  · rw [if_neg hc1] at h
    refine q_icmp rfl (fun _ => ?_) (fun c => absurd hc1 (of_decide_eq_false c))
    refine q_go 2 (pc' := 77) (ls' := [.ref 73]) (st' := [.int (V 73 5)]) (V' := V) rfl ?_
    obtain ⟨rfl, rfl⟩ := x_p2 h
    exact q_ret rfl rfl
def f_X5_thingsIn_L4 (l1 : Int32) : Nat → (Int32 → Int32 → xV → Option (Int32 × xV)) → Int32 → Int32 → xV → Option (Int32 × xV)
  | 0, _, _, _, _ => none
  | n + 1, k, l2, l3, V => if (V 2 2) ≤ l3 then (k l2 l3 V) else (x_b2 (f_X3_slotOf_2 l1 l3 V) (fun x4 V3 => if x_in x4 8 = true then (f_X5_thingsIn_L4 l1 n k (l2 ||| ((1 : Int32) <<< ((V3 74 (x4.toNatClampNeg)) &&& 31))) (l3 + (1 : Int32)) V3) else none))
theorem f_X5_thingsIn_L4_ok (l1 : Int32) {k : Int32 → Int32 → xV → Option (Int32 × xV)} {x : Int32} {W : xV} (hk : ∀ (l2 : Int32) (l3 : Int32) (V : xV), k l2 l3 V = some (x, W) → x_Ex (1) kX5_thingsIn 40 [.ref 73, .int l1, .int l2, .int l3] [] V (some x) W) : ∀ (n : Nat) (l2 : Int32) (l3 : Int32) (V : xV), f_X5_thingsIn_L4 l1 n k l2 l3 V = some (x, W) → x_Ex (1) kX5_thingsIn 4 [.ref 73, .int l1, .int l2, .int l3] [] V (some x) W := by
  intro n
  induction n with
  | zero => intro l2 l3 V  h; cases h
  | succ n ih =>
    intro l2 l3 V  h
    unfold f_X5_thingsIn_L4 at h
    refine q_go 4 (pc' := 12) (ls' := [.ref 73, .int l1, .int l2, .int l3]) (st' := [.int (V 2 2), .int l3]) (V' := V) rfl ?_
    by_cases hc1 : (V 2 2) ≤ l3
    · rw [if_pos hc1] at h
      refine q_icmp rfl (fun _ => ?_) (fun c => absurd hc1 (of_decide_eq_false c))
      exact hk l2 l3 V  h
    · rw [if_neg hc1] at h
      refine q_icmp rfl (fun c => absurd (of_decide_eq_true c) hc1) (fun _ => ?_)
      refine q_go 8 (pc' := 27) (ls' := [.ref 73, .int l1, .int l2, .int l3]) (st' := [.int l3, .int l1, .ref 2, .ref 74, .int (1 : Int32), .int l2]) (V' := V) rfl ?_
      obtain ⟨x4, V3, hc2, h⟩ := x_b2_eq h
      refine q_call (d := (0)) (as := [.ref 2, .int l1, .int l3]) (pc' := 30) (ls' := [.ref 73, .int l1, .int l2, .int l3]) (st' := [.ref 74, .int (1 : Int32), .int l2]) (r1 := some x4) rfl rfl ((f_X3_slotOf_2_ok hc2).up (by decide)) ?_
      refine x_em (p := x_in x4 8 = true) (fun hz => by rw [if_neg hz] at h; cases h) (fun hc5 => ?_)
      rw [if_pos hc5] at h
      refine q_ald (Or.inl ⟨rfl, rfl⟩) rfl hc5 ?_
      refine q_go 5 (pc' := 4) (ls' := [.ref 73, .int l1, .int (l2 ||| ((1 : Int32) <<< ((V3 74 (x4.toNatClampNeg)) &&& 31))), .int (l3 + (1 : Int32))]) (st' := []) (V' := V3) rfl ?_
      exact ih (l2 ||| ((1 : Int32) <<< ((V3 74 (x4.toNatClampNeg)) &&& 31))) (l3 + (1 : Int32)) V3  h
def f_X5_thingsIn (a0 : Int32) (V : xV) : Option (Int32 × xV) := f_X5_thingsIn_L4 a0 300 (fun l2_6 l3_7 V8 => some (l2_6, V8)) (0 : Int32) (0 : Int32) V
theorem f_X5_thingsIn_ok {a0 : Int32} {V W : xV} {x : Int32} (h : f_X5_thingsIn a0 V = some (x, W)) : x_Rn (1) 61 [.ref 73, .int a0] V (some x) W := by
  refine ⟨4, kX5_thingsIn, rfl, ?_⟩
  show x_Ex (1) kX5_thingsIn 0 [.ref 73, .int a0, .long 0, .long 0] [] V (some x) W
  unfold f_X5_thingsIn at h
  refine q_go 4 (pc' := 4) (ls' := [.ref 73, .int a0, .int (0 : Int32), .int (0 : Int32)]) (st' := []) (V' := V) rfl ?_
  refine f_X5_thingsIn_L4_ok a0 (fun l2_6 l3_7 V8 h => ?_) 300 (0 : Int32) (0 : Int32) V  h
  refine q_go 1 (pc' := 41) (ls' := [.ref 73, .int a0, .int l2_6, .int l3_7]) (st' := [.int l2_6]) (V' := V8) rfl ?_
  obtain ⟨rfl, rfl⟩ := x_p2 h
  exact q_ret rfl rfl
def f_X5_seasonsOf_L4 (l1 : Int32) : Nat → (Int32 → Int32 → xV → Option (Int32 × xV)) → Int32 → Int32 → xV → Option (Int32 × xV)
  | 0, _, _, _, _ => none
  | n + 1, k, l2, l3, V => if (V 2 1) ≤ l3 then (k l2 l3 V) else (x_b2 (f_X5_thingsIn l3 V) (fun x4 V3 => f_X5_seasonsOf_L4 l1 n k (l2 ||| (((x4 >>> (l1 &&& 31)) &&& 1) <<< (l3 &&& 31))) (l3 + (1 : Int32)) V3))
theorem f_X5_seasonsOf_L4_ok (l1 : Int32) {k : Int32 → Int32 → xV → Option (Int32 × xV)} {x : Int32} {W : xV} (hk : ∀ (l2 : Int32) (l3 : Int32) (V : xV), k l2 l3 V = some (x, W) → x_Ex (2) kX5_seasonsOf 35 [.ref 73, .int l1, .int l2, .int l3] [] V (some x) W) : ∀ (n : Nat) (l2 : Int32) (l3 : Int32) (V : xV), f_X5_seasonsOf_L4 l1 n k l2 l3 V = some (x, W) → x_Ex (2) kX5_seasonsOf 4 [.ref 73, .int l1, .int l2, .int l3] [] V (some x) W := by
  intro n
  induction n with
  | zero => intro l2 l3 V  h; cases h
  | succ n ih =>
    intro l2 l3 V  h
    unfold f_X5_seasonsOf_L4 at h
    refine q_go 4 (pc' := 12) (ls' := [.ref 73, .int l1, .int l2, .int l3]) (st' := [.int (V 2 1), .int l3]) (V' := V) rfl ?_
    by_cases hc1 : (V 2 1) ≤ l3
    · rw [if_pos hc1] at h
      refine q_icmp rfl (fun _ => ?_) (fun c => absurd hc1 (of_decide_eq_false c))
      exact hk l2 l3 V  h
    · rw [if_neg hc1] at h
      refine q_icmp rfl (fun c => absurd (of_decide_eq_true c) hc1) (fun _ => ?_)
      refine q_go 3 (pc' := 18) (ls' := [.ref 73, .int l1, .int l2, .int l3]) (st' := [.int l3, .ref 73, .int l2]) (V' := V) rfl ?_
      obtain ⟨x4, V3, hc2, h⟩ := x_b2_eq h
      refine q_call (d := (1)) (as := [.ref 73, .int l3]) (pc' := 21) (ls' := [.ref 73, .int l1, .int l2, .int l3]) (st' := [.int l2]) (r1 := some x4) rfl rfl ((f_X5_thingsIn_ok hc2).up (by decide)) ?_
      refine q_go 10 (pc' := 4) (ls' := [.ref 73, .int l1, .int (l2 ||| (((x4 >>> (l1 &&& 31)) &&& 1) <<< (l3 &&& 31))), .int (l3 + (1 : Int32))]) (st' := []) (V' := V3) rfl ?_
      exact ih (l2 ||| (((x4 >>> (l1 &&& 31)) &&& 1) <<< (l3 &&& 31))) (l3 + (1 : Int32)) V3  h
def f_X5_seasonsOf (a0 : Int32) (V : xV) : Option (Int32 × xV) := f_X5_seasonsOf_L4 a0 300 (fun l2_5 l3_6 V7 => some (l2_5, V7)) (0 : Int32) (0 : Int32) V
theorem f_X5_seasonsOf_ok {a0 : Int32} {V W : xV} {x : Int32} (h : f_X5_seasonsOf a0 V = some (x, W)) : x_Rn (2) 62 [.ref 73, .int a0] V (some x) W := by
  refine ⟨4, kX5_seasonsOf, rfl, ?_⟩
  show x_Ex (2) kX5_seasonsOf 0 [.ref 73, .int a0, .long 0, .long 0] [] V (some x) W
  unfold f_X5_seasonsOf at h
  refine q_go 4 (pc' := 4) (ls' := [.ref 73, .int a0, .int (0 : Int32), .int (0 : Int32)]) (st' := []) (V' := V) rfl ?_
  refine f_X5_seasonsOf_L4_ok a0 (fun l2_5 l3_6 V7 h => ?_) 300 (0 : Int32) (0 : Int32) V  h
  refine q_go 1 (pc' := 36) (ls' := [.ref 73, .int a0, .int l2_5, .int l3_6]) (st' := [.int l2_5]) (V' := V7) rfl ?_
  obtain ⟨rfl, rfl⟩ := x_p2 h
  exact q_ret rfl rfl
def f_X5_changesWithout (a0 : Int32) (V : xV) : Option (Int32 × xV) := x_b2 (f_X5_changesNow V) (fun x3 V2 => if x3 = (-9 : Int32) then (some (x3, V2)) else (x_b2 (f_X5_seasonsOf a0 V2) (fun x7 V6 => if x7 = 0 then (some (x3, V6)) else (if x_in a0 6 = true then (if (V6 75 (a0.toNatClampNeg)) = (-5 : Int32) then (x_b2 (f_X2_canBeFilled a0 (0 : Int32) V6) (fun x13 V12 => if x13 = 0 then (some (((x_up V12 75 (a0.toNatClampNeg) (-9 : Int32)) 75 (a0.toNatClampNeg)), (x_up V12 75 (a0.toNatClampNeg) (-9 : Int32)))) else (x_b2 (f_X2_fewestChanges a0 x3 (1 : Int32) V12) (fun x17 V16 => some (((x_up V16 75 (a0.toNatClampNeg) x17) 75 (a0.toNatClampNeg)), (x_up V16 75 (a0.toNatClampNeg) x17)))))) else (some ((V6 75 (a0.toNatClampNeg)), V6))) else none))))
theorem f_X5_changesWithout_ok {a0 : Int32} {V W : xV} {x : Int32} (h : f_X5_changesWithout a0 V = some (x, W)) : x_Rn (29) 58 [.ref 73, .int a0] V (some x) W := by
  refine ⟨3, kX5_changesWithout, rfl, ?_⟩
  show x_Ex (29) kX5_changesWithout 0 [.ref 73, .int a0, .long 0] [] V (some x) W
  unfold f_X5_changesWithout at h
  refine q_go 1 (pc' := 1) (ls' := [.ref 73, .int a0, .long 0]) (st' := [.ref 73]) (V' := V) rfl ?_
  obtain ⟨x3, V2, hc1, h⟩ := x_b2_eq h
  refine q_call (d := (28)) (as := [.ref 73]) (pc' := 4) (ls' := [.ref 73, .int a0, .long 0]) (st' := []) (r1 := some x3) rfl rfl ((f_X5_changesNow_ok hc1).up (by decide)) ?_
  refine q_go 3 (pc' := 8) (ls' := [.ref 73, .int a0, .int x3]) (st' := [.int (-9 : Int32), .int x3]) (V' := V2) rfl ?_
  by_cases hc4 : x3 = (-9 : Int32)
  · rw [if_pos hc4] at h
    refine q_icmp rfl (fun _ => ?_) (fun c => absurd hc4 (of_decide_eq_false c))
    refine q_go 1 (pc' := 20) (ls' := [.ref 73, .int a0, .int x3]) (st' := [.int x3]) (V' := V2) rfl ?_
    obtain ⟨rfl, rfl⟩ := x_p2 h
    exact q_ret rfl rfl
  · rw [if_neg hc4] at h
    refine q_icmp rfl (fun c => absurd (of_decide_eq_true c) hc4) (fun _ => ?_)
    refine q_go 2 (pc' := 13) (ls' := [.ref 73, .int a0, .int x3]) (st' := [.int a0, .ref 73]) (V' := V2) rfl ?_
    obtain ⟨x7, V6, hc5, h⟩ := x_b2_eq h
    refine q_call (d := (28)) (as := [.ref 73, .int a0]) (pc' := 16) (ls' := [.ref 73, .int a0, .int x3]) (st' := []) (r1 := some x7) rfl rfl ((f_X5_seasonsOf_ok hc5).up (by decide)) ?_
    by_cases hc8 : x7 = 0
    · rw [if_pos hc8] at h
      refine q_if rfl (fun c => absurd hc8 (of_decide_eq_true c)) (fun _ => ?_)
      refine q_go 1 (pc' := 20) (ls' := [.ref 73, .int a0, .int x3]) (st' := [.int x3]) (V' := V6) rfl ?_
      obtain ⟨rfl, rfl⟩ := x_p2 h
      exact q_ret rfl rfl
    · rw [if_neg hc8] at h
      refine q_if rfl (fun _ => ?_) (fun c => absurd hc8 (of_decide_eq_false c))
      refine q_go 3 (pc' := 26) (ls' := [.ref 73, .int a0, .int x3]) (st' := [.int a0, .ref 75]) (V' := V6) rfl ?_
      refine x_em (p := x_in a0 6 = true) (fun hz => by rw [if_neg hz] at h; cases h) (fun hc9 => ?_)
      rw [if_pos hc9] at h
      refine q_ald (Or.inl ⟨rfl, rfl⟩) rfl hc9 ?_
      refine q_go 1 (pc' := 29) (ls' := [.ref 73, .int a0, .int x3]) (st' := [.int (-5 : Int32), .int (V6 75 (a0.toNatClampNeg))]) (V' := V6) rfl ?_
      by_cases hc10 : (V6 75 (a0.toNatClampNeg)) = (-5 : Int32)
      · rw [if_pos hc10] at h
        refine q_icmp rfl (fun c => absurd hc10 (of_decide_eq_true c)) (fun _ => ?_)
        refine q_go 7 (pc' := 43) (ls' := [.ref 73, .int a0, .int x3]) (st' := [.int (0 : Int32), .int a0, .ref 76, .int a0, .ref 75]) (V' := V6) rfl ?_
        obtain ⟨x13, V12, hc11, h⟩ := x_b2_eq h
        refine q_call (d := (28)) (as := [.ref 76, .int a0, .int (0 : Int32)]) (pc' := 46) (ls' := [.ref 73, .int a0, .int x3]) (st' := [.int a0, .ref 75]) (r1 := some x13) rfl rfl ((f_X2_canBeFilled_ok hc11).up (by decide)) ?_
        by_cases hc14 : x13 = 0
        · rw [if_pos hc14] at h
          refine q_if rfl (fun _ => ?_) (fun c => absurd hc14 (of_decide_eq_false c))
          refine q_go 1 (pc' := 64) (ls' := [.ref 73, .int a0, .int x3]) (st' := [.int (-9 : Int32), .int a0, .ref 75]) (V' := V12) rfl ?_
          refine q_ast rfl rfl hc9 ?_
          refine q_go 3 (pc' := 70) (ls' := [.ref 73, .int a0, .int x3]) (st' := [.int a0, .ref 75]) (V' := (x_up V12 75 (a0.toNatClampNeg) (-9 : Int32))) rfl ?_
          refine q_ald (Or.inl ⟨rfl, rfl⟩) rfl hc9 ?_
          obtain ⟨rfl, rfl⟩ := x_p2 h
          exact q_ret rfl rfl
        · rw [if_neg hc14] at h
          refine q_if rfl (fun c => absurd (of_decide_eq_true c) hc14) (fun _ => ?_)
          refine q_go 5 (pc' := 56) (ls' := [.ref 73, .int a0, .int x3]) (st' := [.int (1 : Int32), .int x3, .int a0, .ref 76, .int a0, .ref 75]) (V' := V12) rfl ?_
          obtain ⟨x17, V16, hc15, h⟩ := x_b2_eq h
          refine q_call (d := (28)) (as := [.ref 76, .int a0, .int x3, .int (1 : Int32)]) (pc' := 59) (ls' := [.ref 73, .int a0, .int x3]) (st' := [.int a0, .ref 75]) (r1 := some x17) rfl rfl ((f_X2_fewestChanges_ok hc15).up (by decide)) ?_
          refine q_go 1 (pc' := 64) (ls' := [.ref 73, .int a0, .int x3]) (st' := [.int x17, .int a0, .ref 75]) (V' := V16) rfl ?_
          refine q_ast rfl rfl hc9 ?_
          refine q_go 3 (pc' := 70) (ls' := [.ref 73, .int a0, .int x3]) (st' := [.int a0, .ref 75]) (V' := (x_up V16 75 (a0.toNatClampNeg) x17)) rfl ?_
          refine q_ald (Or.inl ⟨rfl, rfl⟩) rfl hc9 ?_
          obtain ⟨rfl, rfl⟩ := x_p2 h
          exact q_ret rfl rfl
      · rw [if_neg hc10] at h
        refine q_icmp rfl (fun _ => ?_) (fun c => absurd hc10 (of_decide_eq_false c))
        refine q_go 3 (pc' := 70) (ls' := [.ref 73, .int a0, .int x3]) (st' := [.int a0, .ref 75]) (V' := V6) rfl ?_
        refine q_ald (Or.inl ⟨rfl, rfl⟩) rfl hc9 ?_
        obtain ⟨rfl, rfl⟩ := x_p2 h
        exact q_ret rfl rfl
def f_X5_leastMore_L46 : Nat → (Int32 → Int32 → Int32 → xV → Option (Int32 × xV)) → Int32 → Int32 → Int32 → xV → Option (Int32 × xV)
  | 0, _, _, _, _, _ => none
  | n + 1, k, l1, l2, l3, V => if (99 : Int32) ≤ l3 then (k l1 l2 l3 V) else (if l2 ≤ (l1 + 1) then (k l1 l2 l3 V) else (x_b2 (f_X2_canBeFilled (6 : Int32) ((l1 + l2) / (2 : Int32)) V) (fun x17 V16 => if x17 = 0 then (f_X5_leastMore_L46 n k ((l1 + l2) / (2 : Int32)) l2 (l3 + (1 : Int32)) V16) else (f_X5_leastMore_L46 n k l1 ((l1 + l2) / (2 : Int32)) (l3 + (1 : Int32)) V16))))
theorem f_X5_leastMore_L46_ok {k : Int32 → Int32 → Int32 → xV → Option (Int32 × xV)} {x : Int32} {W : xV} (hk : ∀ (l1 : Int32) (l2 : Int32) (l3 : Int32) (V : xV) (g4 : Value), k l1 l2 l3 V = some (x, W) → x_Ex (29) kX5_leastMore 95 [.ref 73, .int l1, .int l2, .int l3, g4] [] V (some x) W) : ∀ (n : Nat) (l1 : Int32) (l2 : Int32) (l3 : Int32) (V : xV) (g4 : Value), f_X5_leastMore_L46 n k l1 l2 l3 V = some (x, W) → x_Ex (29) kX5_leastMore 46 [.ref 73, .int l1, .int l2, .int l3, g4] [] V (some x) W := by
  intro n
  induction n with
  | zero => intro l1 l2 l3 V g4 h; cases h
  | succ n ih =>
    intro l1 l2 l3 V g4 h
    unfold f_X5_leastMore_L46 at h
    refine q_go 2 (pc' := 49) (ls' := [.ref 73, .int l1, .int l2, .int l3, g4]) (st' := [.int (99 : Int32), .int l3]) (V' := V) rfl ?_
    by_cases hc13 : (99 : Int32) ≤ l3
    · rw [if_pos hc13] at h
      refine q_icmp rfl (fun _ => ?_) (fun c => absurd hc13 (of_decide_eq_false c))
      exact hk l1 l2 l3 V g4 h
    · rw [if_neg hc13] at h
      refine q_icmp rfl (fun c => absurd (of_decide_eq_true c) hc13) (fun _ => ?_)
      refine q_go 4 (pc' := 56) (ls' := [.ref 73, .int l1, .int l2, .int l3, g4]) (st' := [.int l2, .int (l1 + 1)]) (V' := V) rfl ?_
      by_cases hc14 : l2 ≤ (l1 + 1)
      · rw [if_pos hc14] at h
        refine q_icmp rfl (fun _ => ?_) (fun c => absurd hc14 (of_decide_eq_false c))
        exact hk l1 l2 l3 V g4 h
      · rw [if_neg hc14] at h
        refine q_icmp rfl (fun c => absurd (of_decide_eq_true c) hc14) (fun _ => ?_)
        refine q_go 10 (pc' := 74) (ls' := [.ref 73, .int l1, .int l2, .int l3, .int ((l1 + l2) / (2 : Int32))]) (st' := [.int ((l1 + l2) / (2 : Int32)), .int (6 : Int32), .ref 76]) (V' := V) rfl ?_
        obtain ⟨x17, V16, hc15, h⟩ := x_b2_eq h
        refine q_call (d := (28)) (as := [.ref 76, .int (6 : Int32), .int ((l1 + l2) / (2 : Int32))]) (pc' := 77) (ls' := [.ref 73, .int l1, .int l2, .int l3, .int ((l1 + l2) / (2 : Int32))]) (st' := []) (r1 := some x17) rfl rfl ((f_X2_canBeFilled_ok hc15).up (by decide)) ?_
        by_cases hc18 : x17 = 0
        · rw [if_pos hc18] at h
          refine q_if rfl (fun _ => ?_) (fun c => absurd hc18 (of_decide_eq_false c))
          refine q_go 4 (pc' := 46) (ls' := [.ref 73, .int ((l1 + l2) / (2 : Int32)), .int l2, .int (l3 + (1 : Int32)), .int ((l1 + l2) / (2 : Int32))]) (st' := []) (V' := V16) rfl ?_
          exact ih ((l1 + l2) / (2 : Int32)) l2 (l3 + (1 : Int32)) V16 (.int ((l1 + l2) / (2 : Int32))) h
        · rw [if_neg hc18] at h
          refine q_if rfl (fun c => absurd (of_decide_eq_true c) hc18) (fun _ => ?_)
          refine q_go 5 (pc' := 46) (ls' := [.ref 73, .int l1, .int ((l1 + l2) / (2 : Int32)), .int (l3 + (1 : Int32)), .int ((l1 + l2) / (2 : Int32))]) (st' := []) (V' := V16) rfl ?_
          exact ih l1 ((l1 + l2) / (2 : Int32)) (l3 + (1 : Int32)) V16 (.int ((l1 + l2) / (2 : Int32))) h
def f_X5_leastMore (V : xV) : Option (Int32 × xV) := x_b2 (f_X5_changesNow V) (fun x3 V2 => if x3 = (-9 : Int32) then (x_b2 (f_X4_isOn_5 (0 : Int32) V2) (fun x7 V6 => if x7 = 0 then (some ((-9 : Int32), V6)) else (x_b2 (f_X2_canBeFilled (6 : Int32) (99 : Int32) V6) (fun x11 V10 => if x11 = 0 then (some ((-9 : Int32), V10)) else (f_X5_leastMore_L46 300 (fun l1_19 l2_20 l3_21 V22 => some (l2_20, V22)) (0 : Int32) (99 : Int32) (0 : Int32) V10))))) else (some ((0 : Int32), V2)))
theorem f_X5_leastMore_ok {V W : xV} {x : Int32} (h : f_X5_leastMore V = some (x, W)) : x_Rn (29) 65 [.ref 73] V (some x) W := by
  refine ⟨5, kX5_leastMore, rfl, ?_⟩
  show x_Ex (29) kX5_leastMore 0 [.ref 73, .long 0, .long 0, .long 0, .long 0] [] V (some x) W
  unfold f_X5_leastMore at h
  refine q_go 1 (pc' := 1) (ls' := [.ref 73, .long 0, .long 0, .long 0, .long 0]) (st' := [.ref 73]) (V' := V) rfl ?_
  obtain ⟨x3, V2, hc1, h⟩ := x_b2_eq h
  refine q_call (d := (28)) (as := [.ref 73]) (pc' := 4) (ls' := [.ref 73, .long 0, .long 0, .long 0, .long 0]) (st' := []) (r1 := some x3) rfl rfl ((f_X5_changesNow_ok hc1).up (by decide)) ?_
  refine q_go 1 (pc' := 6) (ls' := [.ref 73, .long 0, .long 0, .long 0, .long 0]) (st' := [.int (-9 : Int32), .int x3]) (V' := V2) rfl ?_
  by_cases hc4 : x3 = (-9 : Int32)
  · rw [if_pos hc4] at h
    refine q_icmp rfl (fun _ => ?_) (fun c => absurd hc4 (of_decide_eq_false c))
    refine q_go 3 (pc' := 16) (ls' := [.ref 73, .long 0, .long 0, .long 0, .long 0]) (st' := [.int (0 : Int32), .ref 5]) (V' := V2) rfl ?_
    obtain ⟨x7, V6, hc5, h⟩ := x_b2_eq h
    refine q_call (d := (28)) (as := [.ref 5, .int (0 : Int32)]) (pc' := 19) (ls' := [.ref 73, .long 0, .long 0, .long 0, .long 0]) (st' := []) (r1 := some x7) rfl rfl ((f_X4_isOn_5_ok hc5).up (by decide)) ?_
    by_cases hc8 : x7 = 0
    · rw [if_pos hc8] at h
      refine q_if rfl (fun _ => ?_) (fun c => absurd hc8 (of_decide_eq_false c))
      refine q_go 1 (pc' := 38) (ls' := [.ref 73, .long 0, .long 0, .long 0, .long 0]) (st' := [.int (-9 : Int32)]) (V' := V6) rfl ?_
      obtain ⟨rfl, rfl⟩ := x_p2 h
      exact q_ret rfl rfl
    · rw [if_neg hc8] at h
      refine q_if rfl (fun c => absurd (of_decide_eq_true c) hc8) (fun _ => ?_)
      refine q_go 4 (pc' := 30) (ls' := [.ref 73, .long 0, .long 0, .long 0, .long 0]) (st' := [.int (99 : Int32), .int (6 : Int32), .ref 76]) (V' := V6) rfl ?_
      obtain ⟨x11, V10, hc9, h⟩ := x_b2_eq h
      refine q_call (d := (28)) (as := [.ref 76, .int (6 : Int32), .int (99 : Int32)]) (pc' := 33) (ls' := [.ref 73, .long 0, .long 0, .long 0, .long 0]) (st' := []) (r1 := some x11) rfl rfl ((f_X2_canBeFilled_ok hc9).up (by decide)) ?_
      by_cases hc12 : x11 = 0
      · rw [if_pos hc12] at h
        refine q_if rfl (fun c => absurd hc12 (of_decide_eq_true c)) (fun _ => ?_)
        refine q_go 1 (pc' := 38) (ls' := [.ref 73, .long 0, .long 0, .long 0, .long 0]) (st' := [.int (-9 : Int32)]) (V' := V10) rfl ?_
        obtain ⟨rfl, rfl⟩ := x_p2 h
        exact q_ret rfl rfl
      · rw [if_neg hc12] at h
        refine q_if rfl (fun _ => ?_) (fun c => absurd hc12 (of_decide_eq_false c))
        refine q_go 6 (pc' := 46) (ls' := [.ref 73, .int (0 : Int32), .int (99 : Int32), .int (0 : Int32), .long 0]) (st' := []) (V' := V10) rfl ?_
        refine f_X5_leastMore_L46_ok (fun l1_19 l2_20 l3_21 V22 g4_23 h => ?_) 300 (0 : Int32) (99 : Int32) (0 : Int32) V10 (.long 0) h
        refine q_go 1 (pc' := 96) (ls' := [.ref 73, .int l1_19, .int l2_20, .int l3_21, g4_23]) (st' := [.int l2_20]) (V' := V22) rfl ?_
        obtain ⟨rfl, rfl⟩ := x_p2 h
        exact q_ret rfl rfl
  · rw [if_neg hc4] at h
    refine q_icmp rfl (fun c => absurd (of_decide_eq_true c) hc4) (fun _ => ?_)
    refine q_go 1 (pc' := 10) (ls' := [.ref 73, .long 0, .long 0, .long 0, .long 0]) (st' := [.int (0 : Int32)]) (V' := V2) rfl ?_
    obtain ⟨rfl, rfl⟩ := x_p2 h
    exact q_ret rfl rfl
def f_J6_bitCount (a0 : Int32) (V : xV) : Option (Int32 × xV) := some (((((((((a0 - (((a0.toUInt32 >>> ((1 : Int32).toUInt32 &&& Int32.toUInt32 31)).toInt32) &&& 1431655765)) &&& 858993459) + ((((a0 - (((a0.toUInt32 >>> ((1 : Int32).toUInt32 &&& Int32.toUInt32 31)).toInt32) &&& 1431655765)).toUInt32 >>> ((2 : Int32).toUInt32 &&& Int32.toUInt32 31)).toInt32) &&& 858993459)) + (((((a0 - (((a0.toUInt32 >>> ((1 : Int32).toUInt32 &&& Int32.toUInt32 31)).toInt32) &&& 1431655765)) &&& 858993459) + ((((a0 - (((a0.toUInt32 >>> ((1 : Int32).toUInt32 &&& Int32.toUInt32 31)).toInt32) &&& 1431655765)).toUInt32 >>> ((2 : Int32).toUInt32 &&& Int32.toUInt32 31)).toInt32) &&& 858993459)).toUInt32 >>> ((4 : Int32).toUInt32 &&& Int32.toUInt32 31)).toInt32)) &&& 252645135) + (((((((a0 - (((a0.toUInt32 >>> ((1 : Int32).toUInt32 &&& Int32.toUInt32 31)).toInt32) &&& 1431655765)) &&& 858993459) + ((((a0 - (((a0.toUInt32 >>> ((1 : Int32).toUInt32 &&& Int32.toUInt32 31)).toInt32) &&& 1431655765)).toUInt32 >>> ((2 : Int32).toUInt32 &&& Int32.toUInt32 31)).toInt32) &&& 858993459)) + (((((a0 - (((a0.toUInt32 >>> ((1 : Int32).toUInt32 &&& Int32.toUInt32 31)).toInt32) &&& 1431655765)) &&& 858993459) + ((((a0 - (((a0.toUInt32 >>> ((1 : Int32).toUInt32 &&& Int32.toUInt32 31)).toInt32) &&& 1431655765)).toUInt32 >>> ((2 : Int32).toUInt32 &&& Int32.toUInt32 31)).toInt32) &&& 858993459)).toUInt32 >>> ((4 : Int32).toUInt32 &&& Int32.toUInt32 31)).toInt32)) &&& 252645135).toUInt32 >>> ((8 : Int32).toUInt32 &&& Int32.toUInt32 31)).toInt32)) + ((((((((a0 - (((a0.toUInt32 >>> ((1 : Int32).toUInt32 &&& Int32.toUInt32 31)).toInt32) &&& 1431655765)) &&& 858993459) + ((((a0 - (((a0.toUInt32 >>> ((1 : Int32).toUInt32 &&& Int32.toUInt32 31)).toInt32) &&& 1431655765)).toUInt32 >>> ((2 : Int32).toUInt32 &&& Int32.toUInt32 31)).toInt32) &&& 858993459)) + (((((a0 - (((a0.toUInt32 >>> ((1 : Int32).toUInt32 &&& Int32.toUInt32 31)).toInt32) &&& 1431655765)) &&& 858993459) + ((((a0 - (((a0.toUInt32 >>> ((1 : Int32).toUInt32 &&& Int32.toUInt32 31)).toInt32) &&& 1431655765)).toUInt32 >>> ((2 : Int32).toUInt32 &&& Int32.toUInt32 31)).toInt32) &&& 858993459)).toUInt32 >>> ((4 : Int32).toUInt32 &&& Int32.toUInt32 31)).toInt32)) &&& 252645135) + (((((((a0 - (((a0.toUInt32 >>> ((1 : Int32).toUInt32 &&& Int32.toUInt32 31)).toInt32) &&& 1431655765)) &&& 858993459) + ((((a0 - (((a0.toUInt32 >>> ((1 : Int32).toUInt32 &&& Int32.toUInt32 31)).toInt32) &&& 1431655765)).toUInt32 >>> ((2 : Int32).toUInt32 &&& Int32.toUInt32 31)).toInt32) &&& 858993459)) + (((((a0 - (((a0.toUInt32 >>> ((1 : Int32).toUInt32 &&& Int32.toUInt32 31)).toInt32) &&& 1431655765)) &&& 858993459) + ((((a0 - (((a0.toUInt32 >>> ((1 : Int32).toUInt32 &&& Int32.toUInt32 31)).toInt32) &&& 1431655765)).toUInt32 >>> ((2 : Int32).toUInt32 &&& Int32.toUInt32 31)).toInt32) &&& 858993459)).toUInt32 >>> ((4 : Int32).toUInt32 &&& Int32.toUInt32 31)).toInt32)) &&& 252645135).toUInt32 >>> ((8 : Int32).toUInt32 &&& Int32.toUInt32 31)).toInt32)).toUInt32 >>> ((16 : Int32).toUInt32 &&& Int32.toUInt32 31)).toInt32)) &&& 63), V)
theorem f_J6_bitCount_ok {a0 : Int32} {V W : xV} {x : Int32} (h : f_J6_bitCount a0 V = some (x, W)) : x_Rn (0) 147 [.int a0] V (some x) W := by
  refine ⟨1, kJ6_bitCount, rfl, ?_⟩
  show x_Ex (0) kJ6_bitCount 0 [.int a0] [] V (some x) W
  unfold f_J6_bitCount at h
  refine q_go 41 (pc' := 52) (ls' := [.int (((((((a0 - (((a0.toUInt32 >>> ((1 : Int32).toUInt32 &&& Int32.toUInt32 31)).toInt32) &&& 1431655765)) &&& 858993459) + ((((a0 - (((a0.toUInt32 >>> ((1 : Int32).toUInt32 &&& Int32.toUInt32 31)).toInt32) &&& 1431655765)).toUInt32 >>> ((2 : Int32).toUInt32 &&& Int32.toUInt32 31)).toInt32) &&& 858993459)) + (((((a0 - (((a0.toUInt32 >>> ((1 : Int32).toUInt32 &&& Int32.toUInt32 31)).toInt32) &&& 1431655765)) &&& 858993459) + ((((a0 - (((a0.toUInt32 >>> ((1 : Int32).toUInt32 &&& Int32.toUInt32 31)).toInt32) &&& 1431655765)).toUInt32 >>> ((2 : Int32).toUInt32 &&& Int32.toUInt32 31)).toInt32) &&& 858993459)).toUInt32 >>> ((4 : Int32).toUInt32 &&& Int32.toUInt32 31)).toInt32)) &&& 252645135) + (((((((a0 - (((a0.toUInt32 >>> ((1 : Int32).toUInt32 &&& Int32.toUInt32 31)).toInt32) &&& 1431655765)) &&& 858993459) + ((((a0 - (((a0.toUInt32 >>> ((1 : Int32).toUInt32 &&& Int32.toUInt32 31)).toInt32) &&& 1431655765)).toUInt32 >>> ((2 : Int32).toUInt32 &&& Int32.toUInt32 31)).toInt32) &&& 858993459)) + (((((a0 - (((a0.toUInt32 >>> ((1 : Int32).toUInt32 &&& Int32.toUInt32 31)).toInt32) &&& 1431655765)) &&& 858993459) + ((((a0 - (((a0.toUInt32 >>> ((1 : Int32).toUInt32 &&& Int32.toUInt32 31)).toInt32) &&& 1431655765)).toUInt32 >>> ((2 : Int32).toUInt32 &&& Int32.toUInt32 31)).toInt32) &&& 858993459)).toUInt32 >>> ((4 : Int32).toUInt32 &&& Int32.toUInt32 31)).toInt32)) &&& 252645135).toUInt32 >>> ((8 : Int32).toUInt32 &&& Int32.toUInt32 31)).toInt32)) + ((((((((a0 - (((a0.toUInt32 >>> ((1 : Int32).toUInt32 &&& Int32.toUInt32 31)).toInt32) &&& 1431655765)) &&& 858993459) + ((((a0 - (((a0.toUInt32 >>> ((1 : Int32).toUInt32 &&& Int32.toUInt32 31)).toInt32) &&& 1431655765)).toUInt32 >>> ((2 : Int32).toUInt32 &&& Int32.toUInt32 31)).toInt32) &&& 858993459)) + (((((a0 - (((a0.toUInt32 >>> ((1 : Int32).toUInt32 &&& Int32.toUInt32 31)).toInt32) &&& 1431655765)) &&& 858993459) + ((((a0 - (((a0.toUInt32 >>> ((1 : Int32).toUInt32 &&& Int32.toUInt32 31)).toInt32) &&& 1431655765)).toUInt32 >>> ((2 : Int32).toUInt32 &&& Int32.toUInt32 31)).toInt32) &&& 858993459)).toUInt32 >>> ((4 : Int32).toUInt32 &&& Int32.toUInt32 31)).toInt32)) &&& 252645135) + (((((((a0 - (((a0.toUInt32 >>> ((1 : Int32).toUInt32 &&& Int32.toUInt32 31)).toInt32) &&& 1431655765)) &&& 858993459) + ((((a0 - (((a0.toUInt32 >>> ((1 : Int32).toUInt32 &&& Int32.toUInt32 31)).toInt32) &&& 1431655765)).toUInt32 >>> ((2 : Int32).toUInt32 &&& Int32.toUInt32 31)).toInt32) &&& 858993459)) + (((((a0 - (((a0.toUInt32 >>> ((1 : Int32).toUInt32 &&& Int32.toUInt32 31)).toInt32) &&& 1431655765)) &&& 858993459) + ((((a0 - (((a0.toUInt32 >>> ((1 : Int32).toUInt32 &&& Int32.toUInt32 31)).toInt32) &&& 1431655765)).toUInt32 >>> ((2 : Int32).toUInt32 &&& Int32.toUInt32 31)).toInt32) &&& 858993459)).toUInt32 >>> ((4 : Int32).toUInt32 &&& Int32.toUInt32 31)).toInt32)) &&& 252645135).toUInt32 >>> ((8 : Int32).toUInt32 &&& Int32.toUInt32 31)).toInt32)).toUInt32 >>> ((16 : Int32).toUInt32 &&& Int32.toUInt32 31)).toInt32))]) (st' := [.int ((((((((a0 - (((a0.toUInt32 >>> ((1 : Int32).toUInt32 &&& Int32.toUInt32 31)).toInt32) &&& 1431655765)) &&& 858993459) + ((((a0 - (((a0.toUInt32 >>> ((1 : Int32).toUInt32 &&& Int32.toUInt32 31)).toInt32) &&& 1431655765)).toUInt32 >>> ((2 : Int32).toUInt32 &&& Int32.toUInt32 31)).toInt32) &&& 858993459)) + (((((a0 - (((a0.toUInt32 >>> ((1 : Int32).toUInt32 &&& Int32.toUInt32 31)).toInt32) &&& 1431655765)) &&& 858993459) + ((((a0 - (((a0.toUInt32 >>> ((1 : Int32).toUInt32 &&& Int32.toUInt32 31)).toInt32) &&& 1431655765)).toUInt32 >>> ((2 : Int32).toUInt32 &&& Int32.toUInt32 31)).toInt32) &&& 858993459)).toUInt32 >>> ((4 : Int32).toUInt32 &&& Int32.toUInt32 31)).toInt32)) &&& 252645135) + (((((((a0 - (((a0.toUInt32 >>> ((1 : Int32).toUInt32 &&& Int32.toUInt32 31)).toInt32) &&& 1431655765)) &&& 858993459) + ((((a0 - (((a0.toUInt32 >>> ((1 : Int32).toUInt32 &&& Int32.toUInt32 31)).toInt32) &&& 1431655765)).toUInt32 >>> ((2 : Int32).toUInt32 &&& Int32.toUInt32 31)).toInt32) &&& 858993459)) + (((((a0 - (((a0.toUInt32 >>> ((1 : Int32).toUInt32 &&& Int32.toUInt32 31)).toInt32) &&& 1431655765)) &&& 858993459) + ((((a0 - (((a0.toUInt32 >>> ((1 : Int32).toUInt32 &&& Int32.toUInt32 31)).toInt32) &&& 1431655765)).toUInt32 >>> ((2 : Int32).toUInt32 &&& Int32.toUInt32 31)).toInt32) &&& 858993459)).toUInt32 >>> ((4 : Int32).toUInt32 &&& Int32.toUInt32 31)).toInt32)) &&& 252645135).toUInt32 >>> ((8 : Int32).toUInt32 &&& Int32.toUInt32 31)).toInt32)) + ((((((((a0 - (((a0.toUInt32 >>> ((1 : Int32).toUInt32 &&& Int32.toUInt32 31)).toInt32) &&& 1431655765)) &&& 858993459) + ((((a0 - (((a0.toUInt32 >>> ((1 : Int32).toUInt32 &&& Int32.toUInt32 31)).toInt32) &&& 1431655765)).toUInt32 >>> ((2 : Int32).toUInt32 &&& Int32.toUInt32 31)).toInt32) &&& 858993459)) + (((((a0 - (((a0.toUInt32 >>> ((1 : Int32).toUInt32 &&& Int32.toUInt32 31)).toInt32) &&& 1431655765)) &&& 858993459) + ((((a0 - (((a0.toUInt32 >>> ((1 : Int32).toUInt32 &&& Int32.toUInt32 31)).toInt32) &&& 1431655765)).toUInt32 >>> ((2 : Int32).toUInt32 &&& Int32.toUInt32 31)).toInt32) &&& 858993459)).toUInt32 >>> ((4 : Int32).toUInt32 &&& Int32.toUInt32 31)).toInt32)) &&& 252645135) + (((((((a0 - (((a0.toUInt32 >>> ((1 : Int32).toUInt32 &&& Int32.toUInt32 31)).toInt32) &&& 1431655765)) &&& 858993459) + ((((a0 - (((a0.toUInt32 >>> ((1 : Int32).toUInt32 &&& Int32.toUInt32 31)).toInt32) &&& 1431655765)).toUInt32 >>> ((2 : Int32).toUInt32 &&& Int32.toUInt32 31)).toInt32) &&& 858993459)) + (((((a0 - (((a0.toUInt32 >>> ((1 : Int32).toUInt32 &&& Int32.toUInt32 31)).toInt32) &&& 1431655765)) &&& 858993459) + ((((a0 - (((a0.toUInt32 >>> ((1 : Int32).toUInt32 &&& Int32.toUInt32 31)).toInt32) &&& 1431655765)).toUInt32 >>> ((2 : Int32).toUInt32 &&& Int32.toUInt32 31)).toInt32) &&& 858993459)).toUInt32 >>> ((4 : Int32).toUInt32 &&& Int32.toUInt32 31)).toInt32)) &&& 252645135).toUInt32 >>> ((8 : Int32).toUInt32 &&& Int32.toUInt32 31)).toInt32)).toUInt32 >>> ((16 : Int32).toUInt32 &&& Int32.toUInt32 31)).toInt32)) &&& 63)]) (V' := V) rfl ?_
  obtain ⟨rfl, rfl⟩ := x_p2 h
  exact q_ret rfl rfl
def f_X5_rankOf_L14 (l1 : Int32) (l2 : Int32) : Nat → (Int32 → Int32 → xV → Option (Int32 × xV)) → Int32 → Int32 → xV → Option (Int32 × xV)
  | 0, _, _, _, _ => none
  | n + 1, k, l3, l4, V => if (V 2 0) ≤ l4 then (k l3 l4 V) else (x_b2 (f_X5_seasonsOf l4 V) (fun x10 V9 => x_b2 (f_J6_bitCount x10 V9) (fun x13 V12 => if l2 < x13 then (f_X5_rankOf_L14 l1 l2 n k (l3 + (1 : Int32)) (l4 + (1 : Int32)) V12) else (if x13 = l2 then (if l1 ≤ l4 then (f_X5_rankOf_L14 l1 l2 n k l3 (l4 + (1 : Int32)) V12) else (f_X5_rankOf_L14 l1 l2 n k (l3 + (1 : Int32)) (l4 + (1 : Int32)) V12)) else (f_X5_rankOf_L14 l1 l2 n k l3 (l4 + (1 : Int32)) V12)))))
theorem f_X5_rankOf_L14_ok (l1 : Int32) (l2 : Int32) {k : Int32 → Int32 → xV → Option (Int32 × xV)} {x : Int32} {W : xV} (hk : ∀ (l3 : Int32) (l4 : Int32) (V : xV) (g5 : Value), k l3 l4 V = some (x, W) → x_Ex (3) kX5_rankOf 64 [.ref 73, .int l1, .int l2, .int l3, .int l4, g5] [] V (some x) W) : ∀ (n : Nat) (l3 : Int32) (l4 : Int32) (V : xV) (g5 : Value), f_X5_rankOf_L14 l1 l2 n k l3 l4 V = some (x, W) → x_Ex (3) kX5_rankOf 14 [.ref 73, .int l1, .int l2, .int l3, .int l4, g5] [] V (some x) W := by
  intro n
  induction n with
  | zero => intro l3 l4 V g5 h; cases h
  | succ n ih =>
    intro l3 l4 V g5 h
    unfold f_X5_rankOf_L14 at h
    refine q_go 4 (pc' := 23) (ls' := [.ref 73, .int l1, .int l2, .int l3, .int l4, g5]) (st' := [.int (V 2 0), .int l4]) (V' := V) rfl ?_
    by_cases hc7 : (V 2 0) ≤ l4
    · rw [if_pos hc7] at h
      refine q_icmp rfl (fun _ => ?_) (fun c => absurd hc7 (of_decide_eq_false c))
      exact hk l3 l4 V g5 h
    · rw [if_neg hc7] at h
      refine q_icmp rfl (fun c => absurd (of_decide_eq_true c) hc7) (fun _ => ?_)
      refine q_go 2 (pc' := 29) (ls' := [.ref 73, .int l1, .int l2, .int l3, .int l4, g5]) (st' := [.int l4, .ref 73]) (V' := V) rfl ?_
      obtain ⟨x10, V9, hc8, h⟩ := x_b2_eq h
      refine q_call (d := (2)) (as := [.ref 73, .int l4]) (pc' := 32) (ls' := [.ref 73, .int l1, .int l2, .int l3, .int l4, g5]) (st' := []) (r1 := some x10) rfl rfl ((f_X5_seasonsOf_ok hc8).up (by decide)) ?_
      obtain ⟨x13, V12, hc11, h⟩ := x_b2_eq h
      refine q_call (d := (2)) (as := [.int x10]) (pc' := 35) (ls' := [.ref 73, .int l1, .int l2, .int l3, .int l4, g5]) (st' := []) (r1 := some x13) rfl rfl ((f_J6_bitCount_ok hc11).up (by decide)) ?_
      refine q_go 3 (pc' := 40) (ls' := [.ref 73, .int l1, .int l2, .int l3, .int l4, .int x13]) (st' := [.int l2, .int x13]) (V' := V12) rfl ?_
      by_cases hc14 : l2 < x13
      · rw [if_pos hc14] at h
        refine q_icmp rfl (fun _ => ?_) (fun c => absurd hc14 (of_decide_eq_false c))
        refine q_go 3 (pc' := 14) (ls' := [.ref 73, .int l1, .int l2, .int (l3 + (1 : Int32)), .int (l4 + (1 : Int32)), .int x13]) (st' := []) (V' := V12) rfl ?_
        exact ih (l3 + (1 : Int32)) (l4 + (1 : Int32)) V12 (.int x13) h
      · rw [if_neg hc14] at h
        refine q_icmp rfl (fun c => absurd (of_decide_eq_true c) hc14) (fun _ => ?_)
        refine q_go 2 (pc' := 46) (ls' := [.ref 73, .int l1, .int l2, .int l3, .int l4, .int x13]) (st' := [.int l2, .int x13]) (V' := V12) rfl ?_
        by_cases hc15 : x13 = l2
        · rw [if_pos hc15] at h
          refine q_icmp rfl (fun c => absurd hc15 (of_decide_eq_true c)) (fun _ => ?_)
          refine q_go 2 (pc' := 52) (ls' := [.ref 73, .int l1, .int l2, .int l3, .int l4, .int x13]) (st' := [.int l1, .int l4]) (V' := V12) rfl ?_
          by_cases hc16 : l1 ≤ l4
          · rw [if_pos hc16] at h
            refine q_icmp rfl (fun _ => ?_) (fun c => absurd hc16 (of_decide_eq_false c))
            refine q_go 2 (pc' := 14) (ls' := [.ref 73, .int l1, .int l2, .int l3, .int (l4 + (1 : Int32)), .int x13]) (st' := []) (V' := V12) rfl ?_
            exact ih l3 (l4 + (1 : Int32)) V12 (.int x13) h
          · rw [if_neg hc16] at h
            refine q_icmp rfl (fun c => absurd (of_decide_eq_true c) hc16) (fun _ => ?_)
            refine q_go 3 (pc' := 14) (ls' := [.ref 73, .int l1, .int l2, .int (l3 + (1 : Int32)), .int (l4 + (1 : Int32)), .int x13]) (st' := []) (V' := V12) rfl ?_
            exact ih (l3 + (1 : Int32)) (l4 + (1 : Int32)) V12 (.int x13) h
        · rw [if_neg hc15] at h
          refine q_icmp rfl (fun _ => ?_) (fun c => absurd hc15 (of_decide_eq_false c))
          refine q_go 2 (pc' := 14) (ls' := [.ref 73, .int l1, .int l2, .int l3, .int (l4 + (1 : Int32)), .int x13]) (st' := []) (V' := V12) rfl ?_
          exact ih l3 (l4 + (1 : Int32)) V12 (.int x13) h
def f_X5_rankOf (a0 : Int32) (V : xV) : Option (Int32 × xV) := x_b2 (f_X5_seasonsOf a0 V) (fun x3 V2 => x_b2 (f_J6_bitCount x3 V2) (fun x6 V5 => f_X5_rankOf_L14 a0 x6 300 (fun l3_17 l4_18 V19 => some (l3_17, V19)) (0 : Int32) (0 : Int32) V5))
theorem f_X5_rankOf_ok {a0 : Int32} {V W : xV} {x : Int32} (h : f_X5_rankOf a0 V = some (x, W)) : x_Rn (3) 64 [.ref 73, .int a0] V (some x) W := by
  refine ⟨6, kX5_rankOf, rfl, ?_⟩
  show x_Ex (3) kX5_rankOf 0 [.ref 73, .int a0, .long 0, .long 0, .long 0, .long 0] [] V (some x) W
  unfold f_X5_rankOf at h
  refine q_go 2 (pc' := 2) (ls' := [.ref 73, .int a0, .long 0, .long 0, .long 0, .long 0]) (st' := [.int a0, .ref 73]) (V' := V) rfl ?_
  obtain ⟨x3, V2, hc1, h⟩ := x_b2_eq h
  refine q_call (d := (2)) (as := [.ref 73, .int a0]) (pc' := 5) (ls' := [.ref 73, .int a0, .long 0, .long 0, .long 0, .long 0]) (st' := []) (r1 := some x3) rfl rfl ((f_X5_seasonsOf_ok hc1).up (by decide)) ?_
  obtain ⟨x6, V5, hc4, h⟩ := x_b2_eq h
  refine q_call (d := (2)) (as := [.int x3]) (pc' := 8) (ls' := [.ref 73, .int a0, .long 0, .long 0, .long 0, .long 0]) (st' := []) (r1 := some x6) rfl rfl ((f_J6_bitCount_ok hc4).up (by decide)) ?_
  refine q_go 5 (pc' := 14) (ls' := [.ref 73, .int a0, .int x6, .int (0 : Int32), .int (0 : Int32), .long 0]) (st' := []) (V' := V5) rfl ?_
  refine f_X5_rankOf_L14_ok a0 x6 (fun l3_17 l4_18 V19 g5_20 h => ?_) 300 (0 : Int32) (0 : Int32) V5 (.long 0) h
  refine q_go 1 (pc' := 65) (ls' := [.ref 73, .int a0, .int x6, .int l3_17, .int l4_18, g5_20]) (st' := [.int l3_17]) (V' := V19) rfl ?_
  obtain ⟨rfl, rfl⟩ := x_p2 h
  exact q_ret rfl rfl
def f_X5_thingOfRank_L2 (l1 : Int32) : Nat → (Int32 → xV → Option (Int32 × xV)) → Int32 → xV → Option (Int32 × xV)
  | 0, _, _, _ => none
  | n + 1, k, l2, V => if (V 2 0) ≤ l2 then (k l2 V) else (x_b2 (f_X5_rankOf l2 V) (fun x4 V3 => if x4 = l1 then (some (l2, V3)) else (f_X5_thingOfRank_L2 l1 n k (l2 + (1 : Int32)) V3)))
theorem f_X5_thingOfRank_L2_ok (l1 : Int32) {k : Int32 → xV → Option (Int32 × xV)} {x : Int32} {W : xV} (hk : ∀ (l2 : Int32) (V : xV), k l2 V = some (x, W) → x_Ex (4) kX5_thingOfRank 30 [.ref 73, .int l1, .int l2] [] V (some x) W) : ∀ (n : Nat) (l2 : Int32) (V : xV), f_X5_thingOfRank_L2 l1 n k l2 V = some (x, W) → x_Ex (4) kX5_thingOfRank 2 [.ref 73, .int l1, .int l2] [] V (some x) W := by
  intro n
  induction n with
  | zero => intro l2 V  h; cases h
  | succ n ih =>
    intro l2 V  h
    unfold f_X5_thingOfRank_L2 at h
    refine q_go 4 (pc' := 10) (ls' := [.ref 73, .int l1, .int l2]) (st' := [.int (V 2 0), .int l2]) (V' := V) rfl ?_
    by_cases hc1 : (V 2 0) ≤ l2
    · rw [if_pos hc1] at h
      refine q_icmp rfl (fun _ => ?_) (fun c => absurd hc1 (of_decide_eq_false c))
      exact hk l2 V  h
    · rw [if_neg hc1] at h
      refine q_icmp rfl (fun c => absurd (of_decide_eq_true c) hc1) (fun _ => ?_)
      refine q_go 2 (pc' := 15) (ls' := [.ref 73, .int l1, .int l2]) (st' := [.int l2, .ref 73]) (V' := V) rfl ?_
      obtain ⟨x4, V3, hc2, h⟩ := x_b2_eq h
      refine q_call (d := (3)) (as := [.ref 73, .int l2]) (pc' := 18) (ls' := [.ref 73, .int l1, .int l2]) (st' := []) (r1 := some x4) rfl rfl ((f_X5_rankOf_ok hc2).up (by decide)) ?_
      refine q_go 1 (pc' := 19) (ls' := [.ref 73, .int l1, .int l2]) (st' := [.int l1, .int x4]) (V' := V3) rfl ?_
      by_cases hc5 : x4 = l1
      · rw [if_pos hc5] at h
        refine q_icmp rfl (fun c => absurd hc5 (of_decide_eq_true c)) (fun _ => ?_)
        refine q_go 1 (pc' := 23) (ls' := [.ref 73, .int l1, .int l2]) (st' := [.int l2]) (V' := V3) rfl ?_
        obtain ⟨rfl, rfl⟩ := x_p2 h
        exact q_ret rfl rfl
      · rw [if_neg hc5] at h
        refine q_icmp rfl (fun _ => ?_) (fun c => absurd hc5 (of_decide_eq_false c))
        refine q_go 2 (pc' := 2) (ls' := [.ref 73, .int l1, .int (l2 + (1 : Int32))]) (st' := []) (V' := V3) rfl ?_
        exact ih (l2 + (1 : Int32)) V3  h
def f_X5_thingOfRank (a0 : Int32) (V : xV) : Option (Int32 × xV) := f_X5_thingOfRank_L2 a0 300 (fun l2_6 V7 => some ((-9 : Int32), V7)) (0 : Int32) V
theorem f_X5_thingOfRank_ok {a0 : Int32} {V W : xV} {x : Int32} (h : f_X5_thingOfRank a0 V = some (x, W)) : x_Rn (4) 63 [.ref 73, .int a0] V (some x) W := by
  refine ⟨3, kX5_thingOfRank, rfl, ?_⟩
  show x_Ex (4) kX5_thingOfRank 0 [.ref 73, .int a0, .long 0] [] V (some x) W
  unfold f_X5_thingOfRank at h
  refine q_go 2 (pc' := 2) (ls' := [.ref 73, .int a0, .int (0 : Int32)]) (st' := []) (V' := V) rfl ?_
  refine f_X5_thingOfRank_L2_ok a0 (fun l2_6 V7 h => ?_) 300 (0 : Int32) V  h
  refine q_go 1 (pc' := 32) (ls' := [.ref 73, .int a0, .int l2_6]) (st' := [.int (-9 : Int32)]) (V' := V7) rfl ?_
  obtain ⟨rfl, rfl⟩ := x_p2 h
  exact q_ret rfl rfl
