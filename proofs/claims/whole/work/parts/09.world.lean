/-! THE WORLD of a pure heap: the cells of the machine that it stands for -/
def x_tr (ad : Nat → Nat) : Value → Value
  | .ref a => .ref (ad a)
  | v => v
theorem x_tr_cat (ad : Nat → Nat) (v : Value) : (x_tr ad v).category = v.category := by cases v <;> rfl
def x_fv (ad : Nat → Nat) (V : xV) (i ci : Nat) (rf : List (Option Nat)) (k : Nat) : Value := if x_kd ci k = 2 then va_rf (((rf[k]?).getD none).map ad) else .int (V i k)
def x_fs (ad : Nat → Nat) (V : xV) (i ci : Nat) (rf : List (Option Nat)) : List Value := (List.range (x_C ci).2.2).map (x_fv ad V i ci rf)
def x_cell (cI cZ cO : ClassId) (ad : Nat → Nat) (V : xV) (i : Nat) (q : xS) : va_E := match q with
  | (0, ci, rf) => .inr (ci, x_fs ad V i ci rf)
  | (1, n, _) => .inl (cI, n, .inl (V i))
  | (2, n, _) => .inl (cZ, n, .inl (V i))
  | (_, n, rf) => .inl (cO, n, .inr (.inr (.inr (.inr (fun j => ((rf[j]?).getD none).map ad)))))
def x_W (cI cZ cO : ClassId) (ad : Nat → Nat) (h : xH) : va_W := (List.range h.1.length).map (fun i => (ad i, x_cell cI cZ cO ad h.2 i (h.1.getD i (0, 0, []))))
def x_slots (q : xS) : Nat := match q with
  | (0, ci, _) => (x_C ci).2.2
  | (_, n, _) => n
def x_sl (h : xH) : Nat := (h.1.map x_slots).sum
theorem x_getD {S : List xS} {x : Nat} {q d : xS} (h : S[x]? = some q) : S.getD x d = q := by simp [List.getD, h]
theorem x_lt {S : List xS} {x : Nat} {q : xS} (h : S[x]? = some q) : x < S.length := (List.getElem?_eq_some_iff.mp h).1
theorem x_W_get {cI cZ cO : ClassId} {ad : Nat → Nat} {h : xH} {i : Nat} (hi : i < h.1.length) : (x_W cI cZ cO ad h)[i]? = some (ad i, x_cell cI cZ cO ad h.2 i (h.1.getD i (0, 0, []))) := by
  simp [x_W, hi]
theorem x_W_at {cI cZ cO : ClassId} {ad : Nat → Nat} {h : xH} {x : Nat} {q : xS} (hq : h.1[x]? = some q) : (x_W cI cZ cO ad h)[x]? = some (ad x, x_cell cI cZ cO ad h.2 x q) := by
  rw [x_W_get (x_lt hq), x_getD hq]
theorem x_W_set {cI cZ cO : ClassId} {ad : Nat → Nat} {h h' : xH} {x : Nat} {E : va_E} (hl : h'.1.length = h.1.length) (he : x_cell cI cZ cO ad h'.2 x (h'.1.getD x (0, 0, [])) = E)
    (ho : ∀ j, j ≠ x → x_cell cI cZ cO ad h'.2 j (h'.1.getD j (0, 0, [])) = x_cell cI cZ cO ad h.2 j (h.1.getD j (0, 0, []))) : (x_W cI cZ cO ad h).set x (ad x, E) = x_W cI cZ cO ad h' := by
  apply List.ext_getElem?
  intro j
  rw [List.getElem?_set]
  by_cases hj : j < h.1.length
  · by_cases hx : x = j
    · subst hx
      rw [if_pos rfl, x_W_get (by omega), he]
      simp [x_W, hj]
    · rw [if_neg hx, x_W_get hj, x_W_get (by omega), ho j (fun q => hx q.symm)]
  · have h1 : (x_W cI cZ cO ad h)[j]? = none := by simp [x_W]; omega
    have h2 : (x_W cI cZ cO ad h')[j]? = none := by simp [x_W]; omega
    rw [h1, h2]
    by_cases hx : x = j
    · rw [if_pos hx]
      simp [x_W]
      omega
    · rw [if_neg hx]
theorem x_up_ne {V : xV} {a k : Nat} {x : Int32} {b : Nat} (h : b ≠ a) : x_up V a k x b = V b := by simp [x_up, h]
theorem x_up_eq {V : xV} {a k : Nat} {x : Int32} : x_up V a k x a = upd (V a) k x := by simp [x_up]
theorem x_cell_V {cI cZ cO : ClassId} {ad : Nat → Nat} {V V' : xV} {j : Nat} {q : xS} (h : V' j = V j) : x_cell cI cZ cO ad V' j q = x_cell cI cZ cO ad V j q := by
  unfold x_cell x_fs x_fv
  rw [h]
theorem x_W_upd {cI cZ cO : ClassId} {ad : Nat → Nat} {S : List xS} {V V' : xV} {x : Nat} {q : xS} (hq : S[x]? = some q) (ho : ∀ j, j ≠ x → V' j = V j) : (x_W cI cZ cO ad (S, V)).set x (ad x, x_cell cI cZ cO ad V' x q) = x_W cI cZ cO ad (S, V') :=
  x_W_set (h := (S, V)) (h' := (S, V')) rfl (by rw [x_getD hq]) (fun j hj => x_cell_V (ho j hj))
theorem x_W_upS {cI cZ cO : ClassId} {ad : Nat → Nat} {S : List xS} {V : xV} {x : Nat} {q : xS} (hx : x < S.length) : (x_W cI cZ cO ad (S, V)).set x (ad x, x_cell cI cZ cO ad V x q) = x_W cI cZ cO ad (S.set x q, V) :=
  x_W_set (h := (S, V)) (h' := (S.set x q, V)) (by simp) (by simp [List.getD, hx]) (fun j hj => by simp [List.getD, List.getElem?_set, Ne.symm hj])
theorem x_fs_set {ad : Nat → Nat} {V : xV} {i ci : Nat} {rf : List (Option Nat)} {k : Nat} {y : Int32} (hk : x_kd ci k ≠ 2) : (x_fs ad V i ci rf).set k (.int y) = x_fs ad (x_up V i k y) i ci rf := by
  apply List.ext_getElem?
  intro j
  rw [List.getElem?_set]
  unfold x_fs
  by_cases hj : j < (x_C ci).2.2
  · by_cases hx : k = j
    · subst hx
      simp [hj, x_fv, hk, x_up, upd]
    · simp [hj, hx, x_fv, x_up, upd, Ne.symm hx]
  · by_cases hx : k = j
    · subst hx; simp [hj]
    · simp [hj, hx]
theorem x_fs_setR {ad : Nat → Nat} {V : xV} {i ci : Nat} {rf : List (Option Nat)} {k y : Nat} (hk : x_kd ci k = 2) (hl : k < rf.length) : (x_fs ad V i ci rf).set k (.ref (ad y)) = x_fs ad V i ci (rf.set k (some y)) := by
  apply List.ext_getElem?
  intro j
  rw [List.getElem?_set]
  unfold x_fs
  by_cases hj : j < (x_C ci).2.2
  · by_cases hx : k = j
    · subst hx
      simp [hj, x_fv, hk, hl, va_rf]
    · simp [hj, hx, x_fv]
  · by_cases hx : k = j
    · subst hx; simp [hj]
    · simp [hj, hx]
theorem x_fs_len {ad : Nat → Nat} {V : xV} {i ci : Nat} {rf : List (Option Nat)} : (x_fs ad V i ci rf).length = (x_C ci).2.2 := by simp [x_fs]
theorem x_fs_at {ad : Nat → Nat} {V : xV} {i ci : Nat} {rf : List (Option Nat)} {k : Nat} (hk : k < (x_C ci).2.2) : (x_fs ad V i ci rf)[k]? = some (x_fv ad V i ci rf k) := by simp [x_fs, hk]
/-- new addresses: the old ones stay; if nothing was made, all stay -/
def x_ad (ad0 : Nat → Nat) (n0 : Nat) (ad : Nat → Nat) (n : Nat) : Prop := n0 ≤ n ∧ (∀ i, i < n0 → ad i = ad0 i) ∧ (n = n0 → ad = ad0)
def x_adp (ad : Nat → Nat) (n a : Nat) : Nat → Nat := fun i => if i = n then a else ad i
theorem x_map_ro {n a : Nat} {ad : Nat → Nat} {rf : List (Option Nat)} (h : rf.all (x_ro n) = true) (k : Nat) : ((rf[k]?).getD none).map (x_adp ad n a) = ((rf[k]?).getD none).map ad := by
  cases hk : rf[k]? with
  | none => rfl
  | some o =>
    cases o with
    | none => rfl
    | some q =>
      have h1 := List.all_eq_true.mp h _ (List.mem_of_getElem? hk)
      simp only [x_ro, decide_eq_true_eq] at h1
      simp [x_adp, Nat.ne_of_lt h1]
theorem x_cell_ad {cI cZ cO : ClassId} {ad : Nat → Nat} {n a : Nat} {V : xV} {i : Nat} {q : xS} (h : q.2.2.all (x_ro n) = true) : x_cell cI cZ cO (x_adp ad n a) V i q = x_cell cI cZ cO ad V i q := by
  obtain ⟨t, k, rf⟩ := q
  have h' : ∀ k, ((rf[k]?).getD none).map (x_adp ad n a) = ((rf[k]?).getD none).map ad := x_map_ro h
  have hf : (fun j => ((rf[j]?).getD none).map (x_adp ad n a)) = fun j => ((rf[j]?).getD none).map ad := funext h'
  have hg : x_fs (x_adp ad n a) V i k rf = x_fs ad V i k rf := by
    unfold x_fs
    congr 1
    funext j
    unfold x_fv
    rw [h']
  rcases t with _ | _ | _ | t
  · show (Sum.inr (k, x_fs (x_adp ad n a) V i k rf) : va_E) = Sum.inr (k, x_fs ad V i k rf)
    rw [hg]
  · rfl
  · rfl
  · show (Sum.inl (cO, k, Sum.inr (Sum.inr (Sum.inr (Sum.inr (fun j => ((rf[j]?).getD none).map (x_adp ad n a)))))) : va_E) = Sum.inl (cO, k, Sum.inr (Sum.inr (Sum.inr (Sum.inr (fun j => ((rf[j]?).getD none).map ad)))))
    rw [hf]
theorem x_W_push {cI cZ cO : ClassId} {ad : Nat → Nat} {S : List xS} {V : xV} {q : xS} {a : Nat} (h : S.all (fun q => q.2.2.all (x_ro S.length)) = true) : x_W cI cZ cO ad (S, V) ++ [(a, x_cell cI cZ cO (x_adp ad S.length a) (x_push S V q).2 S.length q)] = x_W cI cZ cO (x_adp ad S.length a) (x_push S V q) := by
  have hl : (x_W cI cZ cO ad (S, V)).length = S.length := by simp [x_W]
  have hl2 : (x_W cI cZ cO (x_adp ad S.length a) (x_push S V q)).length = S.length + 1 := by simp [x_W, x_push]
  apply List.ext_getElem?
  intro j
  rcases Nat.lt_trichotomy j S.length with hj | hj | hj
  · rw [List.getElem?_append_left (by omega), x_W_get (h := (S, V)) hj, x_W_get (h := x_push S V q) (by simp [x_push]; omega)]
    have e1 : S[j]? = some S[j] := List.getElem?_eq_getElem hj
    have e2 : (S ++ [q]).getD j (0, 0, []) = S[j] := x_getD (by rw [List.getElem?_append_left hj, e1])
    have e3 : S.getD j (0, 0, []) = S[j] := x_getD e1
    show some (ad j, x_cell cI cZ cO ad V j (S.getD j (0, 0, []))) = some (x_adp ad S.length a j, x_cell cI cZ cO (x_adp ad S.length a) (x_push S V q).2 j ((S ++ [q]).getD j (0, 0, [])))
    rw [e2, e3, x_cell_ad (List.all_eq_true.mp h _ (List.mem_of_getElem? e1)), x_cell_V (V := V) (V' := (x_push S V q).2) (by simp [x_push, Nat.ne_of_lt hj])]
    simp [x_adp, Nat.ne_of_lt hj]
  · subst hj
    rw [List.getElem?_append_right (by omega), hl, x_W_get (h := x_push S V q) (by simp [x_push])]
    have e2 : (S ++ [q]).getD S.length (0, 0, []) = q := x_getD (by simp)
    show [(a, _)][S.length - S.length]? = some (x_adp ad S.length a S.length, x_cell cI cZ cO (x_adp ad S.length a) (x_push S V q).2 S.length ((S ++ [q]).getD S.length (0, 0, [])))
    rw [e2]
    simp [x_adp]
  · rw [List.getElem?_eq_none (by simp [hl]; omega), List.getElem?_eq_none (by omega)]
theorem x_tr_ro {n a : Nat} {ad : Nat → Nat} {st : List Value} (h : st.all (x_rv n) = true) : st.map (x_tr (x_adp ad n a)) = st.map (x_tr ad) := by
  apply List.map_congr_left
  intro v hv
  have h1 := List.all_eq_true.mp h v hv
  cases v with
  | ref q =>
    simp only [x_rv, decide_eq_true_eq] at h1
    simp [x_tr, x_adp, Nat.ne_of_lt h1]
  | _ => rfl
theorem x_sl_push {S : List xS} {V : xV} {q : xS} : x_sl (x_push S V q) = x_sl (S, V) + x_slots q := by simp [x_sl, x_push]
/-- the locals -/
def x_L (lsR : Array Slot) (ls : List Value) (ad : Nat → Nat) : Prop := lsR.size = ls.length ∧ lv_wf lsR ∧ ∀ (i : Nat) (v : Value), ls[i]? = some v → v.category = 1 → lsR[i]? = some (.val (x_tr ad v))
def x_lv (ad : Nat → Nat) (ls : List Value) : List (Nat × Value) := (List.range ls.length).filterMap (fun i => match ls[i]? with
  | some v => if v.category = 1 then some (i, x_tr ad v) else none
  | none => none)
theorem x_lv_mem {ad : Nat → Nat} {ls : List Value} {i : Nat} {v : Value} (h : ls[i]? = some v) (hc : v.category = 1) : (i, x_tr ad v) ∈ x_lv ad ls := by
  refine List.mem_filterMap.mpr ⟨i, List.mem_range.mpr (List.getElem?_eq_some_iff.mp h).1, ?_⟩
  simp [h, hc]
theorem x_L_has {lsR : Array Slot} {ls : List Value} {ad : Nat → Nat} (h : x_L lsR ls ad) : lv_has lsR ls.length (x_lv ad ls) := by
  refine ⟨h.1, h.2.1, fun q hq => ?_⟩
  obtain ⟨i, -, hi⟩ := List.mem_filterMap.mp hq
  cases hv : ls[i]? with
  | none => rw [hv] at hi; cases hi
  | some v =>
    rw [hv] at hi
    by_cases hc : v.category = 1
    · simp only [hc, if_true, Option.some.injEq] at hi
      subst hi
      exact h.2.2 i v hv hc
    · simp [hc] at hi
theorem x_L_of {lsR : Array Slot} {ls : List Value} {ad : Nat → Nat} {a : Nat} {v : Value} (ha : a < ls.length) (h : lv_has lsR ls.length ((a, x_tr ad v) :: (x_lv ad ls).filter (fun q => !(q.1 == a) && !(q.1 + 1 == a && q.2.category == 2)))) : x_L lsR (ls.set a v) ad := by
  refine ⟨by rw [h.1]; simp, h.2.1, fun i w hi hc => ?_⟩
  rw [List.getElem?_set] at hi
  by_cases hx : a = i
  · subst hx
    rw [if_pos rfl, if_pos ha] at hi
    cases hi
    exact h.2.2 (a, x_tr ad v) List.mem_cons_self
  · rw [if_neg hx] at hi
    refine h.2.2 (i, x_tr ad w) (List.mem_cons_of_mem _ (List.mem_filter.mpr ⟨x_lv_mem hi hc, ?_⟩))
    have h1 : (x_tr ad w).category = 1 := by rw [x_tr_cat, hc]
    simp [h1, Ne.symm hx]
theorem x_L_ro {n a : Nat} {ad : Nat → Nat} {lsR : Array Slot} {ls : List Value} (h : ls.all (x_rv n) = true) (hL : x_L lsR ls ad) : x_L lsR ls (x_adp ad n a) := by
  refine ⟨hL.1, hL.2.1, fun i v hi hc => ?_⟩
  rw [hL.2.2 i v hi hc]
  have h1 := List.all_eq_true.mp h v (List.mem_of_getElem? hi)
  cases v with
  | ref q =>
    simp only [x_rv, decide_eq_true_eq] at h1
    simp [x_tr, x_adp, Nat.ne_of_lt h1]
  | _ => rfl
theorem x_L_eq {ad ad' : Nat → Nat} {n : Nat} {lsR : Array Slot} {ls : List Value} (h : ls.all (x_rv n) = true) (ha : ∀ i, i < n → ad' i = ad i) (hL : x_L lsR ls ad) : x_L lsR ls ad' := by
  refine ⟨hL.1, hL.2.1, fun i v hi hc => ?_⟩
  rw [hL.2.2 i v hi hc]
  have h1 := List.all_eq_true.mp h v (List.mem_of_getElem? hi)
  cases v with
  | ref q =>
    simp only [x_rv, decide_eq_true_eq] at h1
    simp [x_tr, ha q h1]
  | _ => rfl
theorem x_tr_eq {ad ad' : Nat → Nat} {n : Nat} {st : List Value} (h : st.all (x_rv n) = true) (ha : ∀ i, i < n → ad' i = ad i) : st.map (x_tr ad') = st.map (x_tr ad) := by
  apply List.map_congr_left
  intro v hv
  have h1 := List.all_eq_true.mp h v hv
  cases v with
  | ref q =>
    simp only [x_rv, decide_eq_true_eq] at h1
    simp [x_tr, ha q h1]
  | _ => rfl
theorem x_catsum (st : List Value) (ad : Nat → Nat) : ((st.map (x_tr ad)).map fun v => v.category).sum ≤ 2 * st.length := by
  induction st with
  | nil => simp
  | cons v t ih =>
    simp only [List.map_cons, List.sum_cons, List.length_cons]
    have : (x_tr ad v).category ≤ 2 := by rcases lv_cat (x_tr ad v) with q | q <;> omega
    omega
/-- the classes -/
def x_ty (ci : Nat) : Nat → FieldType := match ci with
  | 0 => tyX0
  | 1 => tyX1
  | 2 => tyX2
  | 3 => tyX3
  | 4 => tyX4
  | 5 => tyX5
  | 6 => tyX6
  | _ => tyX7
theorem x_8 {P : Nat → Prop} (h0 : P 0) (h1 : P 1) (h2 : P 2) (h3 : P 3) (h4 : P 4) (h5 : P 5) (h6 : P 6) (h7 : P 7) : ∀ ci, ci < 8 → P ci
  | 0, _ => h0
  | 1, _ => h1
  | 2, _ => h2
  | 3, _ => h3
  | 4, _ => h4
  | 5, _ => h5
  | 6, _ => h6
  | 7, _ => h7
  | n + 8, h => by omega
theorem x_cl_at : ∀ ci, ci < 8 → x_cl[ci]? = some ((x_C ci).1, (x_C ci).2.1, (x_C ci).2.2) := x_8 rfl rfl rfl rfl rfl rfl rfl rfl
theorem x_ty_ok : ∀ ci, ci < 8 → ∀ k, k < (x_C ci).2.2 → parseFieldDescriptor ((x_C ci).2.1 k).2.2.1 = some (x_ty ci k) := x_8 tyX0_ok tyX1_ok tyX2_ok tyX3_ok tyX4_ok tyX5_ok tyX6_ok tyX7_ok
theorem x_nm_ok : ∀ ci, ci < 8 → ∀ a, a < (x_C ci).2.2 → ∀ b, b < (x_C ci).2.2 → a ≠ b → ((x_C ci).2.1 a).2.1 ≠ ((x_C ci).2.1 b).2.1 := x_8 nmX0 nmX1 nmX2 nmX3 nmX4 nmX5 nmX6 nmX7
theorem x_in_ok : ∀ ci, ci < 8 → ∀ w ∈ u_ws (x_C ci).1 (x_C ci).2.1 (x_C ci).2.2, w ∈ x_tb := by
  have key : ∀ ci, x_in8 ci = true → ∀ w ∈ u_ws (x_C ci).1 (x_C ci).2.1 (x_C ci).2.2, w ∈ x_tb := by
    intro ci h w hw
    have h1 := List.all_eq_true.mp h w hw
    simp only [Bool.and_eq_true, decide_eq_true_eq] at h1
    exact List.mem_filter.mpr h1
  exact x_8 (key 0 x_in8_0) (key 1 x_in8_1) (key 2 x_in8_2) (key 3 x_in8_3) (key 4 x_in8_4) (key 5 x_in8_5) (key 6 x_in8_6) (key 7 x_in8_7)
def x_kok (ci : Nat) : Bool := (List.range (x_C ci).2.2).all (fun k => (x_kd ci k == 0 && x_ty ci k == .int && !((x_C ci).2.1 k).2.2.2) || (x_kd ci k == 1 && x_ty ci k == .boolean && !((x_C ci).2.1 k).2.2.2) || (x_kd ci k == 2 && ((x_C ci).2.1 k).2.2.2 && ((x_C ci).2.1 k).1 == x_N ci && refKind (x_ty ci k)))
theorem x_kok_all : ∀ ci, ci < 8 → x_kok ci = true := x_8 (by decide +kernel) (by decide +kernel) (by decide +kernel) (by decide +kernel) (by decide +kernel) (by decide +kernel) (by decide +kernel) (by decide +kernel)
