/-! the fewest changes -/
theorem p_ch_le6 {d : sT} (hC : 1 ≤ d.2.2.1) : ∀ l : List Nat, p_ch d l ≤ l.length - d.2.2.1 := by
  intro l
  induction l with
  | nil => exact Nat.zero_le _
  | cons x l ih =>
    simp only [p_ch, List.length_cons]
    unfold p_c1
    split <;> omega
theorem p_upd_min {d : sT} : ∀ (L : List (List Nat)) (q0 : Nat × Nat × List Nat), ∃ q, L.foldl (p_upd d) (some q0) = some q ∧ q.1 ≤ q0.1 ∧ (∀ x ∈ L, q.1 ≤ p_ch d x) ∧ (q = q0 ∨ ∃ x ∈ L, q = (p_ch d x, p_mo d x, x)) := by
  intro L
  induction L with
  | nil => intro q0; exact ⟨q0, rfl, Nat.le_refl _, fun x hx => absurd hx List.not_mem_nil, Or.inl rfl⟩
  | cons y L ih =>
    intro q0
    rw [List.foldl_cons, p_upd]
    by_cases c : p_ch d y < q0.1 ∨ (p_ch d y = q0.1 ∧ p_mo d y < q0.2.1)
    · rw [if_pos c]
      obtain ⟨q, e, h1, h2, h3⟩ := ih (p_ch d y, p_mo d y, y)
      simp only at h1
      refine ⟨q, e, by omega, fun x hx => ?_, Or.inr ?_⟩
      · rcases List.mem_cons.mp hx with rfl | hx
        · exact h1
        · exact h2 x hx
      · rcases h3 with h | ⟨x, hx, h⟩
        · exact ⟨y, List.mem_cons_self, h⟩
        · exact ⟨x, List.mem_cons_of_mem _ hx, h⟩
    · rw [if_neg c]
      obtain ⟨q, e, h1, h2, h3⟩ := ih q0
      refine ⟨q, e, h1, fun x hx => ?_, ?_⟩
      · rcases List.mem_cons.mp hx with rfl | hx
        · omega
        · exact h2 x hx
      · rcases h3 with h | ⟨x, hx, h⟩
        · exact Or.inl h
        · exact Or.inr ⟨x, List.mem_cons_of_mem _ hx, h⟩
theorem p_best_nil {d : sT} {w : sW} {br : Option Nat} : p_best d w br = none ↔ p_all d w br 0 = [] := by
  unfold p_best
  cases hL : p_all d w br 0 with
  | nil => simp
  | cons y L =>
    rw [List.foldl_cons]
    obtain ⟨q, e, -⟩ := p_upd_min (d := d) L (p_ch d y, p_mo d y, y)
    rw [show p_upd d none y = some (p_ch d y, p_mo d y, y) from rfl, e]
    simp
theorem p_best_min {d : sT} {w : sW} {br : Option Nat} {q : Nat × Nat × List Nat} (h : p_best d w br = some q) : (∀ x ∈ p_all d w br 0, q.1 ≤ p_ch d x) ∧ ∃ x ∈ p_all d w br 0, q = (p_ch d x, p_mo d x, x) := by
  unfold p_best at h
  cases hL : p_all d w br 0 with
  | nil => rw [hL] at h; cases h
  | cons y L =>
    rw [hL, List.foldl_cons] at h
    obtain ⟨q', e, h1, h2, h3⟩ := p_upd_min (d := d) L (p_ch d y, p_mo d y, y)
    rw [show p_upd d none y = some (p_ch d y, p_mo d y, y) from rfl, e] at h
    cases h
    refine ⟨fun x hx => ?_, ?_⟩
    · rcases List.mem_cons.mp hx with rfl | hx
      · exact h1
      · exact h2 x hx
    · rcases h3 with h | ⟨x, hx, h⟩
      · exact ⟨y, List.mem_cons_self, h⟩
      · exact ⟨x, List.mem_cons_of_mem _ hx, h⟩
theorem q_up_some {d : sT} {any : Bool} {B : Nat} : ∀ (L : List (List Nat)) (c : Option (Nat × List Nat)), (∀ x ∈ L, p_mo d x ≤ 240) → ((L.foldl (q_up d any B) c).isSome = true ↔ c.isSome = true ∨ ∃ x ∈ L, p_ch d x ≤ B) := by
  intro L
  induction L with
  | nil => intro c _; simp
  | cons y L ih =>
    intro c h
    have hy := h y List.mem_cons_self
    rw [List.foldl_cons, ih _ (fun x hx => h x (List.mem_cons_of_mem _ hx))]
    unfold q_up
    cases c with
    | none =>
      by_cases hB : p_ch d y ≤ B
      · rw [if_pos ⟨hB, by show p_mo d y < 1000; omega⟩]
        exact ⟨fun _ => Or.inr ⟨y, List.mem_cons_self, hB⟩, fun _ => Or.inl rfl⟩
      · rw [if_neg (fun q => hB q.1)]
        constructor
        · rintro (q | ⟨x, hx, q⟩)
          · cases q
          · exact Or.inr ⟨x, List.mem_cons_of_mem _ hx, q⟩
        · rintro (q | ⟨x, hx, q⟩)
          · cases q
          · rcases List.mem_cons.mp hx with rfl | hx
            · exact absurd q hB
            · exact Or.inr ⟨x, hx, q⟩
    | some p =>
      constructor
      · intro _; exact Or.inl rfl
      · intro _; left; split <;> rfl
def q_rel (B : Nat) (a : Option (Nat × Nat × List Nat)) (c : Option (Nat × List Nat)) : Prop := match c with
  | none => ∀ q, a = some q → B < q.1
  | some p => a = some (B, p.1, p.2)
theorem q_up_best {d : sT} {B : Nat} : ∀ (L : List (List Nat)) (a : Option (Nat × Nat × List Nat)) (c : Option (Nat × List Nat)), (∀ x ∈ L, B ≤ p_ch d x ∧ p_mo d x ≤ 240) → q_rel B a c → q_rel B (L.foldl (p_upd d) a) (L.foldl (q_up d false B) c) := by
  intro L
  induction L with
  | nil => intro a c _ h; exact h
  | cons y L ih =>
    intro a c h hr
    obtain ⟨hy1, hy2⟩ := h y List.mem_cons_self
    rw [List.foldl_cons, List.foldl_cons]
    refine ih _ _ (fun x hx => h x (List.mem_cons_of_mem _ hx)) ?_
    unfold q_up
    cases c with
    | none =>
      have hr : ∀ q, a = some q → B < q.1 := hr
      by_cases hB : p_ch d y ≤ B
      · rw [if_pos ⟨hB, by show p_mo d y < 1000; omega⟩]
        have e : p_ch d y = B := by omega
        show p_upd d a y = some (B, p_mo d y, y)
        cases a with
        | none => rw [p_upd, e]
        | some q =>
          have := hr q rfl
          rw [p_upd, if_pos (by omega), e]
      · rw [if_neg (fun q => hB q.1)]
        show ∀ q, p_upd d a y = some q → B < q.1
        intro q hq
        cases a with
        | none =>
          rw [p_upd] at hq
          cases hq
          show B < p_ch d y
          omega
        | some q' =>
          have := hr q' rfl
          rw [p_upd] at hq
          split at hq
          · cases hq
            show B < p_ch d y
            omega
          · cases hq; exact this
    | some p =>
      have hr : a = some (B, p.1, p.2) := hr
      subst hr
      by_cases hB : p_ch d y ≤ B ∧ p_mo d y < p.1
      · rw [if_pos (show p_ch d y ≤ B ∧ p_mo d y < q_lim false (some p) from hB)]
        have e : p_ch d y = B := by omega
        show p_upd d _ y = some (B, p_mo d y, y)
        rw [p_upd, if_pos (Or.inr ⟨e, hB.2⟩), e]
      · rw [if_neg (show ¬ (p_ch d y ≤ B ∧ p_mo d y < q_lim false (some p)) from hB)]
        show p_upd d _ y = some (B, p.1, p.2)
        rw [p_upd, if_neg]
        rintro (q | q)
        · simp only at q; omega
        · exact hB ⟨by simp only at q; omega, q.2⟩
section SE
variable {d : sT} {w : sW}
theorem c_go {d' : sT} (hd' : okT d') {al : Nat → Nat → Bool} {cp : Nat → Nat} {cf : Nat → Nat → Bool} {op ru fo : Nat → Nat} {fr any : Bool} {V0 V : xV} (hP : qP d' op cp ru fo fr any V0) (ho : q_op d' al cp cf op) (hcp : ∀ t, t < d'.1 → cp t ≤ 1000) (hr : q_ru d' op cp ru) (hfo : q_fo d' cf fo) {B : Nat} (hB6 : B ≤ 100) (hB : qB d' op cp ru V0 V []) {a : Option (Nat × List Nat)} (hR : qR d' any V a) : ∃ V', f_fill 10 (0 : Int32) (nI B) (0 : Int32) V = some V' ∧ qB d' op cp ru V0 V' [] ∧ qR d' any V' ((gx d'.1 (g_pl d' al cp cf (fun j => fr && decide (op j = op (j - 1)))) (p_N d') []).foldl (q_up d' any B) a) := by
  have hN := p_N8 hd'
  have hN1 : 1 ≤ p_N d' := Nat.mul_le_mul hd'.2.1 hd'.2.2.2.1
  obtain ⟨V', e, b, r⟩ := c_fill hd' hP ho.1 hcp hr hfo hB6 (p_N d') [] (by simp) 10 (by omega) V a hB hR (Nat.zero_le _) (by omega)
  rw [q_all hd' ho hr] at r
  exact ⟨V', e, b, r⟩
theorem tu_id : tuOk d id id := ⟨fun s hs => ⟨hs, rfl⟩, fun r hr => ⟨hr, rfl⟩⟩
theorem gx_id (br : Option Nat) (more : Nat) (op : Nat → Nat) : gx d.1 (g_pl d (alTu d w br id) (p_cp d w more) (p_cf w) (fun j => false && decide (op j = op (j - 1)))) (p_N d) [] = p_all d w br more := by
  unfold p_all
  rw [p_ext_gx]
  congr 1
  funext l t
  rw [p_pl_g]
  unfold g_pl alTu
  simp only [id, Nat.div_add_mod', Bool.false_and]
theorem mem_all {br : Option Nat} {more : Nat} {x : List Nat} (h : x ∈ p_all d w br more) : x.length = p_N d := by
  unfold p_all at h
  rw [p_ext_gx] at h
  have := (gx_mem _ _ _ h).1
  simpa using this
theorem c_few15 (hd : okT d) {br : Option Nat} {op ru fo : Nat → Nat} {any : Bool} {V0 : xV} (hP : qP d op (p_cp d w 0) ru fo false any V0) (ho : q_op d (alTu d w br id) (p_cp d w 0) (p_cf w) op) (hr : q_ru d op (p_cp d w 0) ru) (hfo : q_fo d (p_cf w) fo) {q : Nat × Nat × List Nat} (hq : p_best d w br = some q) {l1 l2 l3 : Int32} : ∀ (m B n : Nat) (V : xV), m + B = q.1 → m < n → qB d op (p_cp d w 0) ru V0 V [] → qR d any V none → ∃ V', f_X2_fewestChanges_L15 l1 l2 l3 n (fun l4_8 V9 => some ((-9 : Int32), V9)) (nI B) V = some (nI q.1, V') ∧ qF V0 V' ∧ (any = false → V' 76 15 = nI q.2.1 ∧ ∀ j, j < p_N d → V' 83 j = nI (p_at q.2.2 j)) := by
  obtain ⟨m1, x0, hx0, m2⟩ := p_best_min hq
  have hC1 := hd.2.2.2.1
  have hC2 := hd.2.2.2.2.1
  have h4 := p_N4 hd
  have hq6 : q.1 ≤ 6 := by
    have := p_ch_le6 hC1 x0
    rw [mem_all hx0] at this
    rw [m2]
    show p_ch d x0 ≤ 6
    omega
  have mo : ∀ x ∈ p_all d w br 0, p_mo d x ≤ 240 := fun x hx => p_mo_le hd x (by rw [mem_all hx]; exact Nat.le_refl _)
  intro m
  induction m with
  | zero =>
    intro B n V hB hn hb hR
    obtain ⟨n, rfl⟩ : ∃ q, n = q + 1 := ⟨n - 1, by omega⟩
    obtain rfl : B = q.1 := by omega
    obtain ⟨V1, e1, b1, r1⟩ := c_go hd hP ho (p_cp_le hd (by decide)) hr hfo (B := q.1) (by omega) hb hR
    rw [gx_id] at r1
    have hs : ((p_all d w br 0).foldl (q_up d any q.1) none).isSome = true := (q_up_some _ _ mo).mpr (Or.inr ⟨x0, hx0, by rw [m2]; exact Nat.le_refl _⟩)
    rw [f_X2_fewestChanges_L15, if_neg (by rw [i_lt, i_n (by omega), show (6 : Int32).toInt = 6 from rfl]; omega), e1, x_b1_some]
    cases hf : (p_all d w br 0).foldl (q_up d any q.1) none with
    | none => rw [hf] at hs; cases hs
    | some p =>
      rw [hf] at r1
      rw [r1.2.1, if_neg (by decide)]
      refine ⟨V1, rfl, b1.1, fun ha => ?_⟩
      subst ha
      have rel := q_up_best (d := d) (B := q.1) (p_all d w br 0) none none (fun x hx => ⟨m1 x hx, mo x hx⟩) (fun q h => by cases h)
      rw [hf] at rel
      have rel : p_best d w br = some (q.1, p.1, p.2) := rel
      rw [hq] at rel
      have rel := Option.some.inj rel
      have c1 : q.2.1 = p.1 := by rw [rel]
      have c2 : q.2.2 = p.2 := by rw [rel]
      rw [c1, c2]
      exact ⟨r1.2.2.1, r1.2.2.2.1⟩
  | succ m ih =>
    intro B n V hB hn hb hR
    obtain ⟨n, rfl⟩ : ∃ q, n = q + 1 := ⟨n - 1, by omega⟩
    obtain ⟨V1, e1, b1, r1⟩ := c_go hd hP ho (p_cp_le hd (by decide)) hr hfo (B := B) (by omega) hb hR
    rw [gx_id] at r1
    have hs : (p_all d w br 0).foldl (q_up d any B) none = none := by
      cases hf : (p_all d w br 0).foldl (q_up d any B) none with
      | none => rfl
      | some p =>
        rcases (q_up_some (d := d) (any := any) (B := B) _ none mo).mp (by rw [hf]; rfl) with h | ⟨x, hx, h⟩
        · cases h
        · have := m1 x hx; omega
    rw [hs] at r1
    rw [f_X2_fewestChanges_L15, if_neg (by rw [i_lt, i_n (by omega), show (6 : Int32).toInt = 6 from rfl]; omega), e1, x_b1_some, r1.2, if_pos rfl, nI_1]
    exact ih (B + 1) n V1 (by omega) (by omega) b1 r1
theorem c_few (hd : okT d) (hw : okW d w) {V : xV} (hto : cTo V d) (hc : cW d V 5 w) {br : Option Nat} (hbr : ∀ x, br = some x → x < d.1) {q : Nat × Nat × List Nat} (hq : p_best d w br = some q) {B : Nat} (hB : B ≤ q.1) {any : Bool} : ∃ V', f_X2_fewestChanges (nI (bkN br)) (nI B) (bI any) V = some (nI q.1, V') ∧ (∀ a, a < 76 ∨ 86 ≤ a → V' a = V a) ∧ (any = false → V' 76 15 = nI q.2.1 ∧ ∀ j, j < p_N d → V' 83 j = nI (p_at q.2.2 j)) := by
  obtain ⟨m1, x0, hx0, m2⟩ := p_best_min hq
  have hq8 : q.1 ≤ 8 := by
    have h1 := p_ch_le d x0
    have h2 := p_N8 hd
    rw [mem_all hx0] at h1
    rw [m2]
    show p_ch d x0 ≤ 8
    omega
  have hS := hd.2.2.1
  obtain ⟨V1, op, ru, e1, hP, ho, hr, z1, z2, z3, fr⟩ := c_prep hd hw hto hc (more := 0) (by decide) hbr (fr := false) tu_id (fun k n V s hV hs => by
    rw [f_X2_prepare_L125, hV.2.1, if_neg (by rw [i_le, i_n (by omega), i_n (by omega)]; omega), if_pos (show bI false = 0 from rfl)]
    have : f_X3_slotOf_2 (nI s) (0 : Int32) V = some (nI (id s * d.2.2.1), V) := by
      unfold f_X3_slotOf_2
      rw [hV.2.2.1, pk_mul, show (0 : Int32) = nI 0 from rfl, nI_add]
      rfl
    rw [this, x_b2_some, nI_1])
  obtain ⟨V', e, f, g⟩ := c_few15 hd (hP any) ho hr (foN_ok hd hw) hq (l1 := nI (bkN br)) (l2 := nI B) (l3 := bI any) (q.1 - B) B 300 (x_up V1 76 12 (bI any)) (by omega) (by omega) ⟨⟨fun _ _ _ _ _ _ => rfl, fun _ _ _ _ => rfl⟩, fun i hi => by simp at hi, fun t ht => by rw [up_a (by decide), z1 t ht]; rfl, trivial, fun x hx => absurd hx List.not_mem_nil⟩ ⟨by rw [up_k (by decide), z3]; rfl, by rw [up_k (by decide)]; exact z2⟩
  refine ⟨V', ?_, fun a ha => ?_, g⟩
  · unfold f_X2_fewestChanges
    rw [show f_X2_prepare (nI (bkN br)) (0 : Int32) (0 : Int32) V = some V1 from e1, x_b1_some, if_pos (by cases any <;> decide)]
    exact e
  · rw [f.1 a (by omega) (by omega) (by omega) (by omega) (by omega), up_a (by omega), fr a ha]
end SE
