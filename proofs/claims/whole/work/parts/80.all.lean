/-! every call -/
theorem steps_of (hh : ∀ z, okS z → stp f_X6_house (fun _ => f_X7_house) z) : x_Steps Sim := by
  intro k q hq f V hV
  have hk : k < 24 := (List.getElem?_eq_some_iff.mp hq).1
  match k, hq, hk with
  | 0, hq, _ =>
    have hq : some (144, 1, 13, 67, 17, 99) = some q := hq
    cases hq
    obtain ⟨r, V1, F, V2, e1, e2, s⟩ := stp.sim (fun z hz => st_type z hz (f 1)) hV
    exact ⟨r, V1, V2, (f_X6_type_ok e1).up (by decide), (f_X7_type_ok e2).up (by decide), s⟩
  | 1, hq, _ =>
    have hq : some (167, 0, 18, 68, 22, 100) = some q := hq
    cases hq
    obtain ⟨r, V1, F, V2, e1, e2, s⟩ := stp.sim (fun z hz => st_clear z hz) hV
    exact ⟨r, V1, V2, (f_X6_clear_ok e1).up (by decide), (f_X7_clear_ok e2).up (by decide), s⟩
  | 2, hq, _ =>
    have hq : some (180, 0, 23, 69, 26, 110) = some q := hq
    cases hq
    obtain ⟨r, V1, F, V2, e1, e2, s⟩ := stp.sim hh hV
    exact ⟨r, V1, V2, (f_X6_house_ok e1).up (by decide), (f_X7_house_ok e2).up (by decide), s⟩
  | 3, hq, _ =>
    have hq : some (193, 2, 27, 70, 31, 115) = some q := hq
    cases hq
    obtain ⟨r, V1, F, V2, e1, e2, s⟩ := stp.sim (fun z hz => st_thing z hz (f 1) (f 2)) hV
    exact ⟨r, V1, V2, (f_X6_thing_ok e1).up (by decide), (f_X7_thing_ok e2).up (by decide), s⟩
  | 4, hq, _ =>
    have hq : some (226, 1, 32, 71, 35, 116) = some q := hq
    cases hq
    obtain ⟨r, V1, F, V2, e1, e2, s⟩ := stp.sim (fun z hz => st_light z hz (f 1)) hV
    exact ⟨r, V1, V2, (f_X6_light_ok e1).up (by decide), (f_X7_light_ok e2).up (by decide), s⟩
  | 5, hq, _ =>
    have hq : some (249, 2, 36, 72, 39, 117) = some q := hq
    cases hq
    obtain ⟨r, V1, F, V2, e1, e2, s⟩ := stp.sim (fun z hz => st_down z hz (f 1) (f 2)) hV
    exact ⟨r, V1, V2, (f_X6_down_ok e1).up (by decide), (f_X7_down_ok e2).up (by decide), s⟩
  | 6, hq, _ =>
    have hq : some (282, 3, 40, 73, 44, 119) = some q := hq
    cases hq
    obtain ⟨r, V1, F, V2, e1, e2, s⟩ := stp.sim (fun z hz => st_sets z hz (f 1) (f 2) (f 3)) hV
    exact ⟨r, V1, V2, (f_X6_sets_ok e1).up (by decide), (f_X7_sets_ok e2).up (by decide), s⟩
  | 7, hq, _ =>
    have hq : some (325, 3, 45, 74, 48, 120) = some q := hq
    cases hq
    obtain ⟨r, V1, F, V2, e1, e2, s⟩ := stp.sim (fun z hz => st_lends z hz (f 1) (f 2) (f 3)) hV
    exact ⟨r, V1, V2, (f_X6_lends_ok e1).up (by decide), (f_X7_lends_ok e2).up (by decide), s⟩
  | 8, hq, _ =>
    have hq : some (368, 2, 49, 75, 52, 121) = some q := hq
    cases hq
    obtain ⟨r, V1, F, V2, e1, e2, s⟩ := stp.sim (fun z hz => st_pairs z hz (f 1) (f 2)) hV
    exact ⟨r, V1, V2, (f_X6_pairs_ok e1).up (by decide), (f_X7_pairs_ok e2).up (by decide), s⟩
  | 9, hq, _ =>
    have hq : some (401, 1, 53, 76, 56, 122) = some q := hq
    cases hq
    obtain ⟨r, V1, F, V2, e1, e2, s⟩ := stp.sim (fun z hz => st_rules z hz (f 1)) hV
    exact ⟨r, V1, V2, (f_X6_rules_ok e1).up (by decide), (f_X7_rules_ok e2).up (by decide), s⟩
  | 10, hq, _ =>
    have hq : some (424, 0, 57, 77, 60, 123) = some q := hq
    cases hq
    obtain ⟨r, V1, F, V2, e1, e2, s⟩ := stp.sim (fun z hz => st_undo z hz) hV
    exact ⟨r, V1, V2, (f_X6_undo_ok e1).up (by decide), (f_X7_undo_ok e2).up (by decide), s⟩
  | 11, hq, _ =>
    have hq : some (437, 2, 61, 78, 64, 131) = some q := hq
    cases hq
    obtain ⟨r, V1, F, V2, e1, e2, s⟩ := stp.sim (fun z hz => st_plan z hz (f 1) (f 2)) hV
    exact ⟨r, V1, V2, (f_X6_plan_ok e1).up (by decide), (f_X7_plan_ok e2).up (by decide), s⟩
  | 12, hq, _ =>
    have hq : some (470, 1, 65, 79, 68, 132) = some q := hq
    cases hq
    obtain ⟨r, V1, F, V2, e1, e2, s⟩ := stp.sim (fun z hz => st_cost z hz (f 1)) hV
    exact ⟨r, V1, V2, (f_X6_cost_ok e1).up (by decide), (f_X7_cost_ok e2).up (by decide), s⟩
  | 13, hq, _ =>
    have hq : some (493, 2, 69, 80, 72, 134) = some q := hq
    cases hq
    obtain ⟨r, V1, F, V2, e1, e2, s⟩ := stp.sim (fun z hz => st_spent z hz (f 1) (f 2)) hV
    exact ⟨r, V1, V2, (f_X6_spent_ok e1).up (by decide), (f_X7_spent_ok e2).up (by decide), s⟩
  | 14, hq, _ =>
    have hq : some (526, 1, 73, 81, 76, 135) = some q := hq
    cases hq
    obtain ⟨r, V1, F, V2, e1, e2, s⟩ := stp.sim (fun z hz => st_shown z hz (f 1)) hV
    exact ⟨r, V1, V2, (f_X6_shown_ok e1).up (by decide), (f_X7_shown_ok e2).up (by decide), s⟩
  | 15, hq, _ =>
    have hq : some (549, 1, 77, 82, 80, 137) = some q := hq
    cases hq
    obtain ⟨r, V1, F, V2, e1, e2, s⟩ := stp.sim (fun z hz => st_often z hz (f 1)) hV
    exact ⟨r, V1, V2, (f_X6_often_ok e1).up (by decide), (f_X7_often_ok e2).up (by decide), s⟩
  | 16, hq, _ =>
    have hq : some (572, 0, 81, 83, 84, 138) = some q := hq
    cases hq
    obtain ⟨r, V1, F, V2, e1, e2, s⟩ := stp.sim (fun z hz => st_needed z hz) hV
    exact ⟨r, V1, V2, (f_X6_needed_ok e1).up (by decide), (f_X7_needed_ok e2).up (by decide), s⟩
  | 17, hq, _ =>
    have hq : some (585, 1, 85, 84, 88, 140) = some q := hq
    cases hq
    obtain ⟨r, V1, F, V2, e1, e2, s⟩ := stp.sim (fun z hz => st_dearth z hz (f 1)) hV
    exact ⟨r, V1, V2, (f_X6_dearth_ok e1).up (by decide), (f_X7_dearth_ok e2).up (by decide), s⟩
  | 18, hq, _ =>
    have hq : some (608, 1, 89, 85, 92, 141) = some q := hq
    cases hq
    obtain ⟨r, V1, F, V2, e1, e2, s⟩ := stp.sim (fun z hz => st_sees z hz (f 1)) hV
    exact ⟨r, V1, V2, (f_X6_sees_ok e1).up (by decide), (f_X7_sees_ok e2).up (by decide), s⟩
  | 19, hq, _ =>
    have hq : some (631, 0, 93, 86, 96, 142) = some q := hq
    cases hq
    obtain ⟨r, V1, F, V2, e1, e2, s⟩ := stp.sim (fun z hz => st_forget z hz) hV
    exact ⟨r, V1, V2, (f_X6_forget_ok e1).up (by decide), (f_X7_forget_ok e2).up (by decide), s⟩
  | 20, hq, _ =>
    have hq : some (644, 0, 97, 87, 100, 143) = some q := hq
    cases hq
    obtain ⟨r, V1, F, V2, e1, e2, s⟩ := stp.sim (fun z hz => st_unseen z hz) hV
    exact ⟨r, V1, V2, (f_X6_unseen_ok e1).up (by decide), (f_X7_unseen_ok e2).up (by decide), s⟩
  | 21, hq, _ =>
    have hq : some (657, 1, 101, 88, 104, 144) = some q := hq
    cases hq
    obtain ⟨r, V1, F, V2, e1, e2, s⟩ := stp.sim (fun z hz => st_keep z hz (f 1)) hV
    exact ⟨r, V1, V2, (f_X6_keep_ok e1).up (by decide), (f_X7_keep_ok e2).up (by decide), s⟩
  | 22, hq, _ =>
    have hq : some (680, 1, 105, 89, 108, 145) = some q := hq
    cases hq
    obtain ⟨r, V1, F, V2, e1, e2, s⟩ := stp.sim (fun z hz => st_back z hz (f 1)) hV
    exact ⟨r, V1, V2, (f_X6_back_ok e1).up (by decide), (f_X7_back_ok e2).up (by decide), s⟩
  | 23, hq, _ =>
    have hq : some (703, 1, 109, 90, 112, 146) = some q := hq
    cases hq
    obtain ⟨r, V1, F, V2, e1, e2, s⟩ := stp.sim (fun z hz => st_count z hz (f 1)) hV
    exact ⟨r, V1, V2, (f_X6_count_ok e1).up (by decide), (f_X7_count_ok e2).up (by decide), s⟩
/-! the beginning -/
def z0 : sS := ([], (0, 4, 2, fun _ => 0, fun _ => 5), s_w0, [], (none, none), [])
theorem z0_ok : okS z0 := by
  refine ⟨by decide, fun c h => absurd h List.not_mem_nil, ⟨by decide, by decide, by decide, by decide, by decide, fun t ht => absurd ht (Nat.not_lt_zero t), fun s _ => by show 5 ≤ 30; decide⟩, ⟨fun s b x _ _ h => (by cases h), fun t p _ h => (by cases h), fun t u _ _ => (by show (0 : Nat).testBit u = (0 : Nat).testBit t; rw [Nat.zero_testBit, Nat.zero_testBit]), fun t _ => by show (0 : Nat).testBit t = false; exact Nat.zero_testBit t, fun t u _ h => ?_, fun t _ => by show 0 < 64; decide, by show 15 < 16; decide⟩, by decide, fun w h => absurd h List.not_mem_nil, fun w h => (by cases h), fun w h => (by cases h), by decide⟩
  have h : (0 : Nat).testBit u = true := h
  rw [Nat.zero_testBit] at h
  cases h
def v_in (a k : Nat) (v : Int32) : Bool := x_V0.any (fun q => decide (q.1 = a) && q.2.any (fun z => decide (z.1 = k) && decide (z.2 = v)))
theorem v_get {V : xV} (h : x_V0.all (fun q => q.2.all (fun z => decide (V q.1 z.1 = z.2))) = true) {a k : Nat} {v : Int32} (hv : v_in a k v = true) : V a k = v := by
  unfold v_in at hv
  rw [List.any_eq_true] at hv
  obtain ⟨q, hq, hv⟩ := hv
  rw [Bool.and_eq_true, decide_eq_true_eq, List.any_eq_true] at hv
  obtain ⟨rfl, z, hz, hv⟩ := hv
  rw [Bool.and_eq_true, decide_eq_true_eq, decide_eq_true_eq] at hv
  obtain ⟨rfl, rfl⟩ := hv
  have := List.all_eq_true.mp (List.all_eq_true.mp h q hq) z hz
  exact of_decide_eq_true this
theorem v_rng : ((List.range 8).all (fun j => v_in 6 j (-9)) && (List.range 6).all (fun t => v_in 7 t (-9) && v_in 8 t (-9) && v_in 9 t 0 && v_in 103 (8 + t) (-9) && v_in 103 (14 + t) (-9) && v_in 103 (20 + t) 0) && (List.range 8).all (fun j => v_in 103 j (-9)) && (List.range 4).all (fun s => v_in 4 s 5 && v_in 98 s 5)) = true := by decide +kernel
theorem v_one : (v_in 0 1 0 && v_in 2 0 0 && v_in 2 1 4 && v_in 2 2 2 && v_in 5 4 15 && v_in 19 2 0 && v_in 19 1 0 && v_in 0 7 0 && v_in 0 9 0 && v_in 73 5 (-5) && v_in 96 2 0 && v_in 96 8 0 && v_in 96 9 4 && v_in 96 10 2 && v_in 103 26 15 && v_in 96 23 0 && v_in 106 0 0 && v_in 106 1 0 && v_in 96 27 0) = true := by decide +kernel
theorem z0_sim {V : xV} (h : x_V0.all (fun q => q.2.all (fun z => decide (V q.1 z.1 = z.2))) = true) : Sim V := by
  have r := v_rng
  have o := v_one
  simp only [Bool.and_eq_true, List.all_eq_true, List.mem_range] at r o
  obtain ⟨⟨⟨r1, r2⟩, r3⟩, r4⟩ := r
  obtain ⟨⟨⟨⟨⟨⟨⟨⟨⟨⟨⟨⟨⟨⟨⟨⟨⟨⟨a1, a2⟩, a3⟩, a4⟩, a5⟩, a6⟩, a7⟩, a8⟩, a9⟩, a10⟩, a11⟩, a12⟩, a13⟩, a14⟩, a15⟩, a16⟩, a17⟩, a18⟩, a19⟩ := o
  refine ⟨z0, z0_ok, ⟨⟨v_get h a1, fun i c hc => by simp [z0] at hc⟩, ⟨v_get h a2, v_get h a3, v_get h a4, fun t ht => absurd ht (Nat.not_lt_zero t), fun s hs => v_get h (r4 s hs).1⟩, ⟨fun s b hs hb => ?_, fun t ht => ⟨?_, ?_, ?_⟩, v_get h a5⟩, ⟨v_get h a6, 0, by decide, v_get h a7, fun i w hw => by simp [z0] at hw⟩, ⟨v_get h a8, fun w hw => (by cases hw), fun w hw => (by cases hw)⟩, ⟨v_get h a9, fun i c hc => by simp [z0] at hc⟩, Or.inl (v_get h a10)⟩, ⟨v_get h a11, fun i c hc => by simp [z0] at hc⟩, ⟨v_get h a12, v_get h a13, v_get h a14, fun t ht => absurd ht (Nat.not_lt_zero t), fun s hs => v_get h (r4 s hs).2⟩, ⟨fun s b hs hb => ?_, fun t ht => ⟨?_, ?_, ?_⟩, ?_⟩, ⟨v_get h a16, fun i w hw => by simp [z0] at hw⟩, ⟨v_get h a17, v_get h a18, fun w hw => (by cases hw), fun w hw => (by cases hw)⟩, ⟨v_get h a19, fun i c hc => by simp [z0] at hc⟩⟩
  · have hs : s < 4 := hs
    have hb : b < 2 := hb
    exact v_get h (r1 (s * 2 + b) (by omega))
  · exact v_get h (r2 t ht).1.1.1.1.1
  · exact v_get h (r2 t ht).1.1.1.1.2
  · exact v_get h (r2 t ht).1.1.1.2
  · have hs : s < 4 := hs
    have hb : b < 2 := hb
    rw [Nat.zero_add]
    exact v_get h (r3 (2 * s + b) (by omega))
  · rw [Nat.zero_add]
    exact v_get h (r2 t ht).1.1.2
  · rw [Nat.zero_add]
    exact v_get h (r2 t ht).1.2
  · rw [Nat.zero_add]
    exact v_get h (r2 t ht).2
  · exact v_get h a15
theorem init_ok : x_Init Sim := by
  have h := x_iniC_ok
  unfold x_iniC at h
  split at h
  · rename_i h1 e1
    rw [Bool.and_eq_true, Bool.and_eq_true, decide_eq_true_eq] at h
    obtain ⟨⟨c1, c2⟩, h⟩ := h
    split at h
    · rename_i h2 e2
      rw [Bool.and_eq_true, decide_eq_true_eq] at h
      obtain ⟨c3, c4⟩ := h
      obtain ⟨S2, V2⟩ := h2
      have c3 : S2 = x_S0 := c3
      subst c3
      exact ⟨8000, 8000, h1, V2, e1, c1, c2, e2, z0_sim c4⟩
    · cases h
  · cases h
