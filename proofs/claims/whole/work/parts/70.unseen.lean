/-! unseen -/
def sAll (e : List Int32) (v : Int32) : Bool := e.all (fun c => decide (c = v))
def p_un (d : sT) (w : sW) (e : List Int32) : Nat → Nat
  | 0 => 0
  | t + 1 => p_un d w e t ||| (if sAll e (nI (wI (p_chg d w (some t)))) then 2 ^ t else 0)
theorem p_un_lt (d : sT) (w : sW) (e : List Int32) : ∀ t, t ≤ 6 → p_un d w e t < 64 := by
  intro t
  induction t with
  | zero => intro _; exact (by decide : 0 < 64)
  | succ t ih =>
    intro h
    simp only [p_un]
    split
    · exact b_or64 (ih (by omega)) (pw64 t (by omega))
    · exact b_or64 (ih (by omega)) (by decide)
theorem sAll_drop {e : List Int32} {v c : Int32} {i : Nat} (h : e[i]? = some c) : sAll (e.drop i) v = (decide (c = v) && sAll (e.drop (i + 1)) v) := by
  obtain ⟨hi, hc⟩ := List.getElem?_eq_some_iff.mp h
  rw [List.drop_eq_getElem_cons hi, hc]
  rfl
theorem c_allL {V : xV} {se : List Int32} (hs : cSe V se) (hl : se.length ≤ 4) {l1 v : Int32} : ∀ (m i n : Nat), m + i = se.length → m < n → f_X6_isAllThatWasSeen_L15 l1 v n (fun _ V => some ((1 : Int32), V)) (nI i) V = some (bI (sAll (se.drop i) v), V) := by
  intro m
  induction m with
  | zero =>
    intro i n hi hn
    obtain ⟨n, rfl⟩ : ∃ q, n = q + 1 := ⟨n - 1, by omega⟩
    obtain rfl : i = se.length := by omega
    rw [f_X6_isAllThatWasSeen_L15, hs.1, if_pos (by rw [i_le]; exact Int.le_refl _), List.drop_length]
    rfl
  | succ m ih =>
    intro i n hi hn
    obtain ⟨n, rfl⟩ : ∃ q, n = q + 1 := ⟨n - 1, by omega⟩
    have hg : se[i]? = some (se[i]'(by omega)) := List.getElem?_eq_getElem (by omega)
    rw [f_X6_isAllThatWasSeen_L15, hs.1, if_neg (by rw [i_le, i_n (by omega), i_n (by omega)]; omega), if_pos (x_inN (by omega) (by decide)), i_c (by omega), hs.2 i _ hg, nI_1, sAll_drop hg]
    by_cases c : se[i]'(by omega) = v
    · rw [if_pos c, decide_eq_true c, Bool.true_and]
      exact ih (i + 1) n (by omega) (by omega)
    · rw [if_neg c, decide_eq_false c, Bool.false_and]
      rfl
theorem c_all {V : xV} {d : sT} {w : sW} {br : Option Nat} {se : List Int32} (hd : okT d) (hs : cSe V se) (hl : se.length ≤ 4) : f_X6_isAllThatWasSeen (oI (p_chg d w br)) V = some (bI (sAll se (nI (wI (p_chg d w br)))), V) := by
  unfold f_X6_isAllThatWasSeen
  have key := fun l1 v => c_allL (l1 := l1) (v := v) hs hl se.length 0 300 rfl (by omega)
  rw [List.drop_zero] at key
  cases hb : p_best d w br with
  | none =>
    rw [if_pos ((oI_9 hd).mpr hb), show p_chg d w br = none by unfold p_chg; rw [hb]; rfl]
    exact key _ 9
  | some q =>
    rw [if_neg (fun e => by rw [(oI_9 hd).mp e] at hb; cases hb), show p_chg d w br = some q.1 by unfold p_chg; rw [hb]; rfl]
    exact key _ _
theorem m_L40 {V : xV} {se : List Int32} (hs : mSe V se) (hl : se.length ≤ 4) {F : Nat} {l1 l2 v : Int32} {k : Int32 → Int32 → xV → Option (Int32 × xV)} : ∀ (m i n : Nat) (b : Bool), m + i = se.length → m < n → f_X7_unseen_L40 F l1 l2 v n k (bI b) (nI i) V = k (bI (b && sAll (se.drop i) v)) (nI se.length) V := by
  intro m
  induction m with
  | zero =>
    intro i n b hi hn
    obtain ⟨n, rfl⟩ : ∃ q, n = q + 1 := ⟨n - 1, by omega⟩
    obtain rfl : i = se.length := by omega
    rw [f_X7_unseen_L40, hs.1, if_pos (by rw [i_le]; exact Int.le_refl _), List.drop_length]
    cases b <;> rfl
  | succ m ih =>
    intro i n b hi hn
    obtain ⟨n, rfl⟩ : ∃ q, n = q + 1 := ⟨n - 1, by omega⟩
    have hg : se[i]? = some (se[i]'(by omega)) := List.getElem?_eq_getElem (by omega)
    rw [f_X7_unseen_L40, hs.1, if_neg (by rw [i_le, i_n (by omega), i_n (by omega)]; omega), nI_1]
    cases b with
    | false =>
      rw [if_pos bI_f]
      exact ih (i + 1) n false (by omega) (by omega)
    | true =>
      rw [if_neg (by decide), if_pos (x_inN (by omega) (by decide)), i_c (by omega), hs.2 i _ hg, sAll_drop hg]
      by_cases c : se[i]'(by omega) = v
      · rw [if_pos c, decide_eq_true c, Bool.true_and]
        exact ih (i + 1) n true (by omega) (by omega)
      · rw [if_neg c, decide_eq_false c, Bool.false_and]
        have := ih (i + 1) n false (by omega) (by omega)
        rw [Bool.false_and] at this
        exact this
theorem st_unseen (z : sS) (hz : okS z) : stp f_X6_unseen (fun F => f_X7_unseen F) z := by
  obtain ⟨x, d, w, hi, im, se⟩ := z
  obtain ⟨o1, o2, o3, o4, o5, o6, o7, o8, o9⟩ := hz.split
  have hT := o3.1
  refine stp.mk hz (nI (p_un d w se d.1)) (fun V h => ?_) (fun V h => ?_)
  · have key : ∀ (m t n : Nat) (V : xV), m + t = d.1 → m < n → Cls (x, d, w, hi, im, se) V → ∃ V1, f_X6_unseen_L4 n (fun l1_9 l2_10 V11 => some (l1_9, V11)) (nI (p_un d w se t)) (nI t) V = some (nI (p_un d w se d.1), V1) ∧ Cls (x, d, w, hi, im, se) V1 ∧ frC V V1 := by
      intro m
      induction m with
      | zero =>
        intro t n V ht hn h
        obtain ⟨n, rfl⟩ : ∃ q, n = q + 1 := ⟨n - 1, by omega⟩
        obtain rfl : t = d.1 := by omega
        refine ⟨V, ?_, h, frC.rf⟩
        rw [f_X6_unseen_L4, h.to.1, if_pos (by rw [i_le]; exact Int.le_refl _)]
      | succ m ih =>
        intro t n V ht hn h
        obtain ⟨n, rfl⟩ : ∃ q, n = q + 1 := ⟨n - 1, by omega⟩
        obtain ⟨V1, e1, k1, f1⟩ := c_wo hz h (show t < d.1 by omega)
        obtain ⟨V2, e2, k2, f2⟩ := ih (t + 1) n V1 (by omega) (by omega) k1
        have hu := p_un_lt d w se t (by omega)
        refine ⟨V2, ?_, k2, f1.tr f2⟩
        simp only [p_un] at e2
        rw [f_X6_unseen_L4, h.to.1, if_neg (by rw [i_le, i_n (by omega), i_n (by omega)]; omega), e1, x_b2_some, c_all o3 k1.split.2.2.2.2.2.1 o9, x_b2_some, nI_1]
        cases hs : sAll se (nI (wI (p_chg d w (some t)))) with
        | false =>
          rw [hs, if_neg (by decide), Nat.or_zero] at e2
          rw [if_pos bI_f]
          exact e2
        | true =>
          rw [hs] at e2
          rw [if_neg (by decide), (b_or _ hu t (by omega)).1]
          exact e2
    exact key d.1 0 300 V rfl (by omega) h
  · have key : ∀ (m t n : Nat) (V : xV), m + t = d.1 → m < n → Mdl (x, d, w, hi, im, se) V → ∃ F0 V1, (∀ F, F0 ≤ F → f_X7_unseen_L9 F n (fun l1_18 l2_19 V20 => some (l1_18, V20)) (nI (p_un d w se t)) (nI t) V = some (nI (p_un d w se d.1), V1)) ∧ Mdl (x, d, w, hi, im, se) V1 ∧ frM V V1 := by
      intro m
      induction m with
      | zero =>
        intro t n V ht hn h
        obtain ⟨n, rfl⟩ : ∃ q, n = q + 1 := ⟨n - 1, by omega⟩
        obtain rfl : t = d.1 := by omega
        refine ⟨0, V, fun F _ => ?_, h, frM.rf⟩
        rw [f_X7_unseen_L9, h.to.1, if_pos (by rw [i_le]; exact Int.le_refl _)]
      | succ m ih =>
        intro t n V ht hn h
        obtain ⟨n, rfl⟩ : ∃ q, n = q + 1 := ⟨n - 1, by omega⟩
        have hu := p_un_lt d w se t (by omega)
        have hsn : mSe V se := h.split.2.2.2.2.2
        have fin : ∀ F V2 V1, f_X7_unseen_L9 F n (fun l1_18 l2_19 V20 => some (l1_18, V20)) (nI (p_un d w se (t + 1))) (nI (t + 1)) V1 = some (nI (p_un d w se d.1), V2) → ∀ i : Int32, (fun (l3_10 l5_11 : Int32) (V12 : xV) => if l3_10 = 0 then (f_X7_unseen_L9 F n (fun l1_18 l2_19 V20 => some (l1_18, V20)) ((nI (p_un d w se t)) ||| 0) ((nI t) + (1 : Int32)) V12) else (f_X7_unseen_L9 F n (fun l1_18 l2_19 V20 => some (l1_18, V20)) ((nI (p_un d w se t)) ||| ((1 : Int32) <<< ((nI t) &&& 31))) ((nI t) + (1 : Int32)) V12)) (bI (sAll se (nI (wI (p_chg d w (some t)))))) i V1 = some (nI (p_un d w se d.1), V2) := by
          intro F V2 V1 e2 i
          simp only [p_un] at e2
          simp only [nI_1]
          cases hs : sAll se (nI (wI (p_chg d w (some t)))) with
          | false =>
            rw [hs] at e2
            rw [if_pos bI_f, show (0 : Int32) = nI 0 from rfl, b_or' _ hu _ (by decide)]
            exact e2
          | true =>
            rw [hs] at e2
            rw [if_neg (by decide), (b_or _ hu t (by omega)).1]
            exact e2
        by_cases h0 : se.length = 0
        · obtain ⟨F0, V1, e2, m1, f1⟩ := ih (t + 1) n V (by omega) (by omega) h
          refine ⟨F0, V1, fun F hF => ?_, m1, f1⟩
          rw [f_X7_unseen_L9, h.to.1, if_neg (by rw [i_le, i_n (by omega), i_n (by omega)]; omega), hsn.1, if_pos (by rw [h0]; rfl)]
          refine (m_L40 hsn o9 se.length 0 300 true rfl (by omega)).trans ?_
          have : sAll (se.drop 0) 0 = sAll se (nI (wI (p_chg d w (some t)))) := by
            rw [List.length_eq_zero_iff.mp h0]
            rfl
          rw [this, Bool.true_and]
          exact fin F V1 V (e2 F hF) 0
        · have hbr : ∀ x, some t = some x → x < d.1 := fun x e => by cases e; omega
          obtain ⟨F1, V1, e1, m1, f1⟩ := m_without hz h (br := some t) hbr
          obtain ⟨F2, V2, e2, m2, f2⟩ := ih (t + 1) n V1 (by omega) (by omega) m1
          refine ⟨F1 + F2, V2, fun F hF => ?_, m2, f1.tr f2⟩
          rw [f_X7_unseen_L9, h.to.1, if_neg (by rw [i_le, i_n (by omega), i_n (by omega)]; omega), hsn.1, if_neg (by rw [i_eq, i_n (by omega), i_0]; omega), show f_X7_without F (nI t) V = _ from e1 F (by omega), x_b2_some]
          refine (m_L40 m1.split.2.2.2.2.2 o9 se.length 0 300 true rfl (by omega)).trans ?_
          rw [List.drop_zero, Bool.true_and]
          exact fin F V2 V1 (e2 F (by omega)) 0
    obtain ⟨F0, V1, e, m1, f1⟩ := key d.1 0 300 (x_up V 96 0 0) rfl (by omega) h.th
    exact ⟨F0, V1, e F0 (Nat.le_refl _), m1, frM.th.tr f1⟩
