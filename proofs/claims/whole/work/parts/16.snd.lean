/-! THE WHOLE RUN: what the pure machine answers, the machine answers -/
def x_End (q : xI) (r : Option Int32) (pc' : Nat) (st' : List Value) : Prop := (r = none ∧ st' = [] ∧ decode q.2.1 pc' = .ok (.return_, 1) ∧ q.2.2.2.1 = none) ∨ ∃ y, r = some y ∧ st' = [.int y] ∧ decode q.2.1 pc' = .ok (.ireturn, 1) ∧ (q.2.2.2.1 = some .int ∨ (q.2.2.2.1 = some .boolean ∧ (y = 0 ∨ y = 1)))
theorem x_at_mem {code : List xE} {pc : Nat} {en : xE} (h : x_at code pc = some en) : en ∈ code ∧ en.1 = pc := by
  induction code with
  | nil => cases h
  | cons q r ih =>
    unfold x_at at h
    split at h
    · cases h
      exact ⟨List.mem_cons_self, by assumption⟩
    · exact ⟨List.mem_cons_of_mem _ (ih h).1, (ih h).2⟩
theorem x_chk_all {i : Nat} {q : xI} (hq : x_inf[i]? = some q) {en : xE} (h : en ∈ q.2.2.2.2.2.2.2) : x_chk q en = true := by
  have hg := x_all_good i q hq
  simp only [x_good, Bool.and_eq_true] at hg
  exact List.all_eq_true.mp hg.1.1.2 en h
theorem x_endS {q : xI} {en : xE} (hk : x_chk q en = true) {ls st : List Value} {h : xH} {r : Option Int32} (hs : x_step x_nf x_sws en ls st h = some (.inr (.inl r))) : x_End q r en.1 st := by
  obtain ⟨pc, op, nx, a, b, cs, v⟩ := en
  unfold x_chk at hk
  split at hk
  case h_2 => cases hk
  rename_i ins len hd
  simp only [Bool.and_eq_true] at hk
  obtain ⟨⟨hl, hf⟩, hr⟩ := hk
  rcases r_ret hs with ⟨rfl, y, rfl, rfl, hb⟩ | ⟨rfl, rfl, rfl⟩
  · have hi := f_27 hf
    subst hi
    simp only [x_len, Bool.and_eq_true, beq_iff_eq] at hl
    obtain ⟨rfl, rfl⟩ := hl
    refine Or.inr ⟨y, rfl, rfl, hd, ?_⟩
    simp only [Bool.or_eq_true, Bool.and_eq_true, beq_iff_eq] at hr
    rcases hr with ⟨h1, -⟩ | ⟨h1, h2⟩
    · exact Or.inl h1
    · refine Or.inr ⟨h1, ?_⟩
      rcases hb with z | z
      · rw [z] at h2; cases h2
      · exact z
  · have hi := f_28 hf
    subst hi
    simp only [x_len, Bool.and_eq_true, beq_iff_eq] at hl
    obtain ⟨rfl, rfl⟩ := hl
    exact Or.inl ⟨rfl, rfl, hd, by simpa using hr⟩
theorem x_mt_at {i nl : Nat} {code : List xE} (h : x_mt[i]? = some (nl, code)) : ∃ q, x_inf[i]? = some q ∧ q.2.2.1 = nl ∧ q.2.2.2.2.2.2.2 = code := by
  rw [x_mt_eq, List.getElem?_map] at h
  obtain ⟨q, hq, h1⟩ := Option.map_eq_some_iff.mp h
  cases h1
  exact ⟨q, hq, rfl, rfl⟩
/-- a run of fuel n gives its contract, if runs of less fuel give theirs -/
def x_IH (l : Launch) (D : va_G) (cI cZ cO : ClassId) (n : Nat) : Prop := ∀ (i : Nat) (q : xI), x_inf[i]? = some q → ∀ (d : Nat) (as : List Value) (h : xH) (r : Option Int32) (h' : xH), (∀ v ∈ as, v.category = 1) → as.length = (if q.2.2.2.2.1 = 0 then q.2.2.2.2.2.2.1 else q.2.2.2.2.2.2.1 + 1) → x_ex x_nf x_sws x_mt n d q.2.2.2.2.2.2.2 0 (as ++ List.replicate (q.2.2.1 - as.length) (.long 0)) [] h = some (r, h') → x_Met l D cI cZ cO q d as h r h'
section Snd
variable {l : Launch} {D : va_G} {cI cZ cO : ClassId}
set_option maxHeartbeats 4000000 in
theorem x_snd (N : Nat) (ihM : ∀ n, n < N → x_IH l D cI cZ cO n) : ∀ (n : Nat), n ≤ N → ∀ (i : Nat) (q : xI), x_inf[i]? = some q → ∀ (d pc : Nat) (ls st : List Value) (h : xH) (r : Option Int32) (h' : xH), x_ex x_nf x_sws x_mt n d q.2.2.2.2.2.2.2 pc ls st h = some (r, h') → ls.length = q.2.2.1 →
    ∀ {p : Program} {e : Env} {R : Room} {s : State} {m : MethodId} {args : Array Value} {below : List Frame} {meth : Method} {c : Code} {Q : State → Prop} {A : Nat → Prop} {L0 T0 n0 : Nat} {ad0 : Nat → Nat}, x_X p s m args meth c R A q → x_Nst s → d + 1 ≤ R.frames → 200 * (d + 1) ≤ R.locals → h'.1.length ≤ R.cells + L0 → x_sl h' ≤ R.slots + T0 →
      (∀ (pc' : Nat) (ls' st' : List Value), x_End q r pc' st' → x_G p l e R s m args below meth c Q D cI cZ cO A L0 T0 n0 ad0 pc' ls' st' h') → x_G p l e R s m args below meth c Q D cI cZ cO A L0 T0 n0 ad0 pc ls st h := by
  intro n
  induction n with
  | zero => intro _ i q hq d pc ls st h r h' hs; cases hs
  | succ n ih =>
    intro hn i q hq d pc ls st h r h' hs hlen p e R s m args below meth c Q A L0 T0 n0 ad0 hX hN hF hL hr1 hr2 hend
    have ih := ih (by omega)
    simp only [x_ex] at hs
    split at hs
    · cases hs
    · rename_i en hat
      obtain ⟨hmem, hpc⟩ := x_at_mem hat
      have hk := x_chk_all hq hmem
      subst hpc
      split at hs
      · cases hs
      · rename_i pc1 ls1 st1 h1 hst
        have hmo := x_step_mono hst
        have hmo2 := x_ex_mono _ _ _ _ _ _ _ _ _ hs
        exact x_stepS hX hk hlen hst (Nat.le_trans hmo2.1 hr1) (Nat.le_trans hmo2.2 hr2) (ih i q hq d _ _ _ _ _ _ hs (hmo.1.trans hlen) hX hN hF hL hr1 hr2 hend)
      · rename_i r1 hst
        cases hs
        exact hend _ _ _ (x_endS hk hst)
      · rename_i i1 as pc1 ls1 st1 hst
        split at hs
        · rename_i d' nl code' hmt
          obtain ⟨q2, hq2, rfl, rfl⟩ := x_mt_at hmt
          split at hs
          · cases hs
          · rename_i r1 h1 hrun
            split at hs
            · rename_i hok
              have hc := r_call hst
              have hlen1 : ls1.length = q.2.2.1 := by rw [hc.2.2.1]; exact hlen
              have hmo1 := x_ex_mono _ _ _ _ _ _ _ _ _ hrun
              have hmo2 := x_ex_mono _ _ _ _ _ _ _ _ _ hs
              have has : as.length = (if q2.2.2.2.2.1 = 0 then q2.2.2.2.2.2.2.1 else q2.2.2.2.2.2.2.1 + 1) := by
                obtain ⟨pc, op, nx, a, b, cs, v⟩ := en
                obtain ⟨e1, -, -, -, -, e2, -, e3⟩ := hc
                dsimp only at e1 e2
                unfold x_chk at hk
                split at hk
                case h_2 => cases hk
                simp only [Bool.and_eq_true] at hk
                obtain ⟨⟨-, hf⟩, -⟩ := hk
                rcases e3 with rfl | ⟨rfl, -⟩
                · obtain ⟨-, -, -, hany⟩ := f_25 hf
                  rw [← e1, hq2] at hany
                  simp only [Option.any_some, Bool.and_eq_true, beq_iff_eq] at hany
                  rw [if_pos hany.1, e2, hany.2]
                · rcases f_26 hf with ⟨-, -, -, hany⟩ | ⟨-, -, -, hany⟩
                  · rw [← e1, hq2] at hany
                    simp only [Option.any_some, Bool.and_eq_true, beq_iff_eq, decide_eq_true_eq] at hany
                    rw [if_neg (by rw [hany.1.1.1]; decide), e2, hany.1.1.2]
                  · rw [← e1, hq2] at hany
                    simp only [Option.any_some, Bool.and_eq_true, beq_iff_eq, decide_eq_true_eq] at hany
                    rw [if_neg (by rw [hany.1.1.1]; decide), e2, hany.1.1.2]
              have hM := ihM n (by omega) i1 q2 hq2 d' as h r1 h1 hc.2.2.2.2.2.2.1 has hrun
              exact x_callS hX hN (by omega) (by omega) hk hlen hst hq2 hM hmo1.1 hmo1.2 (Nat.le_trans hmo2.1 hr1) (Nat.le_trans hmo2.2 hr2) hok (ih i q hq _ _ _ _ _ _ _ hs hlen1 hX hN hF hL hr1 hr2 hend)
            · cases hs
        · cases hs
end Snd
