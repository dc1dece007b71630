/-! the steps put together -/
theorem x_FL_use {cn i a b : Nat} (h : x_FL.any (fun q => q.1 == cn && q.2.1 == i && q.2.2.1 == a && q.2.2.2.1 == b) = true) : a < 8 ∧ b < (x_C a).2.2 ∧ Cond.fieldLink (x_N cn) i (x_T a b).1 (x_T a b).2.1 (x_T a b).2.2.1 ∈ x_tb := by
  obtain ⟨q, hq, h1⟩ := List.any_eq_true.mp h
  simp only [Bool.and_eq_true, beq_iff_eq] at h1
  obtain ⟨⟨⟨rfl, rfl⟩, rfl⟩, rfl⟩ := h1
  have h2 := List.all_eq_true.mp x_FL_ok q hq
  simp only [Bool.and_eq_true, decide_eq_true_eq] at h2
  exact ⟨h2.2, h2.1.2, x_ok1_in h2.1.1⟩
theorem x_CL_use {cn i : Nat} {v : Int32} (h : x_CL.any (fun q => q.1 == cn && q.2.1 == i && q.2.2.1 == v) = true) : Cond.constant (x_N cn) i v ∈ x_tb := by
  obtain ⟨q, hq, h1⟩ := List.any_eq_true.mp h
  simp only [Bool.and_eq_true, beq_iff_eq] at h1
  obtain ⟨⟨rfl, rfl⟩, rfl⟩ := h1
  exact x_ok1_in (List.all_eq_true.mp x_CL_ok q hq)
theorem x_ML_use {cn i a : Nat} (h : x_f3 x_ML cn i a = true) : Cond.methodLink (x_N cn) i (x_Y a) ∈ x_tb := by
  obtain ⟨q, hq, h1⟩ := List.any_eq_true.mp h
  simp only [Bool.and_eq_true, beq_iff_eq] at h1
  obtain ⟨⟨rfl, rfl⟩, rfl⟩ := h1
  exact x_ok1_in (List.all_eq_true.mp x_ML_ok q hq)
theorem x_KL_use {cn i a : Nat} (h : x_f3 x_KL cn i a = true) : Cond.classLink (x_N cn) i (x_N a) ∈ x_tb := by
  obtain ⟨q, hq, h1⟩ := List.any_eq_true.mp h
  simp only [Bool.and_eq_true, beq_iff_eq] at h1
  obtain ⟨⟨rfl, rfl⟩, rfl⟩ := h1
  exact x_ok1_in (List.all_eq_true.mp x_KL_ok q hq)
theorem x_XL_use {cn i b : Nat} (h : x_f3 x_XL cn i b = true) : Cond.methodLink (x_N cn) i (if b = 11 then Lib.Math.max.name else Lib.Math.min.name) ∈ x_tb := by
  obtain ⟨q, hq, h1⟩ := List.any_eq_true.mp h
  simp only [Bool.and_eq_true, beq_iff_eq] at h1
  obtain ⟨⟨rfl, rfl⟩, rfl⟩ := h1
  exact x_ok1_in (List.all_eq_true.mp x_XL_ok q hq)
theorem x_OL_use {cn i : Nat} (h : x_OL.any (fun q => q.1 == cn && q.2.1 == i) = true) : Cond.methodLink (x_N cn) i Lib.objectInit ∈ x_tb := by
  obtain ⟨q, hq, h1⟩ := List.any_eq_true.mp h
  simp only [Bool.and_eq_true, beq_iff_eq] at h1
  obtain ⟨rfl, rfl⟩ := h1
  exact x_ok1_in (List.all_eq_true.mp x_OL_ok q hq)
theorem x_AL_use {cn i : Nat} (h : x_AL.any (fun q => q.1 == cn && q.2.1 == i) = true) : Cond.methodLink (x_N cn) i arraycopyName ∈ x_tb := by
  obtain ⟨q, hq, h1⟩ := List.any_eq_true.mp h
  simp only [Bool.and_eq_true, beq_iff_eq] at h1
  obtain ⟨rfl, rfl⟩ := h1
  exact x_ok1_in (List.all_eq_true.mp x_AL_ok q hq)
theorem x_kd_use {a b : Nat} (ha : a < 8) (hb : b < (x_C a).2.2) : (x_kd a b = 0 ∧ x_ty a b = .int ∧ (x_T a b).2.2.2 = false) ∨ (x_kd a b = 1 ∧ x_ty a b = .boolean ∧ (x_T a b).2.2.2 = false) ∨ (x_kd a b = 2 ∧ (x_T a b).2.2.2 = true ∧ (x_T a b).1 = x_N a ∧ refKind (x_ty a b) = true) := by
  have hko := List.all_eq_true.mp (x_kok_all a ha) b (List.mem_range.mpr hb)
  simp only [Bool.or_eq_true, Bool.and_eq_true, beq_iff_eq, Bool.not_eq_true'] at hko
  rcases hko with (⟨⟨q1, q2⟩, q3⟩ | ⟨⟨q1, q2⟩, q3⟩) | ⟨⟨⟨q1, q2⟩, q3⟩, q4⟩
  · exact Or.inl ⟨q1, q2, q3⟩
  · exact Or.inr (Or.inl ⟨q1, q2, q3⟩)
  · exact Or.inr (Or.inr ⟨q1, q2, q3, q4⟩)
def x_X (p : Program) (s : State) (m : MethodId) (args : Array Value) (meth : Method) (c : Code) (R : Room) (A : Nat → Prop) (q : xI) : Prop := p.tables.exec = Jvm.exec ∧ c.code = q.2.1 ∧ c.maxLocals = q.2.2.1 ∧ s.vm.findClass (x_N q.2.2.2.2.2.1) = some m.cls ∧ (∀ w ∈ x_tb, w.before args s = true) ∧ (q.1.name = "<init>" → meth.name = "<init>") ∧ va_AO RX4 s ∧ (∀ y, s.heap.size ≤ y → A y) ∧ 1 ≤ R.frames ∧ 200 ≤ R.locals
section Comb
variable {p : Program} {l : Launch} {e : Env} {R : Room} {s : State} {m : MethodId} {args : Array Value} {below : List Frame} {meth : Method} {c : Code} {Q : State → Prop} {D : va_G} {cI cZ cO : ClassId} {A : Nat → Prop} {L0 T0 n0 : Nat} {ad0 : Nat → Nat} {ls st : List Value} {h : xH}

set_option maxHeartbeats 4000000 in
theorem x_stepS {q : xI} (hX : x_X p s m args meth c R A q) {en : xE} (hk : x_chk q en = true) (hlen : ls.length = q.2.2.1) {c' : xC} (hs : x_step x_nf x_sws en ls st h = some (.inl c')) (hr1 : c'.2.2.2.1.length ≤ R.cells + L0) (hr2 : x_sl c'.2.2.2 ≤ R.slots + T0) (k : x_G p l e R s m args below meth c Q D cI cZ cO A L0 T0 n0 ad0 c'.1 c'.2.1 c'.2.2.1 c'.2.2.2) : x_G p l e R s m args below meth c Q D cI cZ cO A L0 T0 n0 ad0 en.1 ls st h := by
  obtain ⟨hx, hb, hml, hown, hts, hnm, hao, hA, hF, hLo⟩ := hX
  obtain ⟨pc, op, nx, a, b, cs, v⟩ := en
  unfold x_chk at hk
  split at hk
  case h_2 => cases hk
  rename_i ins len hd
  simp only [Bool.and_eq_true] at hk
  obtain ⟨⟨hl, hf⟩, -⟩ := hk
  dsimp only at hd ⊢
  cases ins
  case iconst n =>
    simp only [x_fit, Bool.and_eq_true, beq_iff_eq] at hf
    obtain ⟨rfl, rfl⟩ := hf
    simp only [x_len, Bool.and_eq_true, beq_iff_eq] at hl
    obtain ⟨rfl, rfl⟩ := hl
    obtain rfl := v_0 hs
    exact s_iconst hx hb hd k
  case bipush n =>
    simp only [x_fit, Bool.and_eq_true, beq_iff_eq] at hf
    obtain ⟨rfl, rfl⟩ := hf
    simp only [x_len, Bool.and_eq_true, beq_iff_eq] at hl
    obtain ⟨rfl, rfl⟩ := hl
    obtain rfl := v_0 hs
    exact s_bipush hx hb hd k
  case sipush n =>
    simp only [x_fit, Bool.and_eq_true, beq_iff_eq] at hf
    obtain ⟨rfl, rfl⟩ := hf
    simp only [x_len, Bool.and_eq_true, beq_iff_eq] at hl
    obtain ⟨rfl, rfl⟩ := hl
    obtain rfl := v_0 hs
    exact s_sipush hx hb hd k
  case ldc n =>
    simp only [x_fit, Bool.and_eq_true, beq_iff_eq] at hf
    obtain ⟨rfl, hz⟩ := hf
    simp only [x_len, Bool.and_eq_true, beq_iff_eq] at hl
    obtain ⟨rfl, rfl⟩ := hl
    obtain rfl := v_0 hs
    exact s_ldc hx hb hown hts (x_CL_use hz) hd k
  case ldc_w n =>
    simp only [x_fit, Bool.and_eq_true, beq_iff_eq] at hf
    obtain ⟨rfl, hz⟩ := hf
    simp only [x_len, Bool.and_eq_true, beq_iff_eq] at hl
    obtain ⟨rfl, rfl⟩ := hl
    obtain rfl := v_0 hs
    exact s_ldc_w hx hb hown hts (x_CL_use hz) hd k
  case iload_n n =>
    simp only [x_fit, Bool.and_eq_true, beq_iff_eq] at hf
    obtain ⟨rfl, rfl⟩ := hf
    simp only [x_len, Bool.and_eq_true, beq_iff_eq] at hl
    obtain ⟨rfl, rfl⟩ := hl
    obtain ⟨x, hx1, rfl⟩ := v_1 hs
    exact s_iload_n hx hb hx1 hd k
  case iload n =>
    simp only [x_fit, Bool.and_eq_true, beq_iff_eq] at hf
    obtain ⟨rfl, rfl⟩ := hf
    simp only [x_len, Bool.and_eq_true, beq_iff_eq] at hl
    obtain ⟨rfl, rfl⟩ := hl
    obtain ⟨x, hx1, rfl⟩ := v_1 hs
    exact s_iload hx hb hx1 hd k
  case aload_n n =>
    simp only [x_fit, Bool.and_eq_true, beq_iff_eq] at hf
    obtain ⟨rfl, rfl⟩ := hf
    simp only [x_len, Bool.and_eq_true, beq_iff_eq] at hl
    obtain ⟨rfl, rfl⟩ := hl
    obtain ⟨x, hx1, rfl⟩ := v_2 hs
    exact s_aload_n hx hb hx1 hd k
  case istore_n n =>
    simp only [x_fit, Bool.and_eq_true, beq_iff_eq] at hf
    obtain ⟨rfl, rfl⟩ := hf
    simp only [x_len, Bool.and_eq_true, beq_iff_eq] at hl
    obtain ⟨rfl, rfl⟩ := hl
    obtain ⟨x, st', rfl, hx1, rfl⟩ := v_3 hs
    exact s_istore_n hx hb hx1 hd k
  case istore n =>
    simp only [x_fit, Bool.and_eq_true, beq_iff_eq] at hf
    obtain ⟨rfl, rfl⟩ := hf
    simp only [x_len, Bool.and_eq_true, beq_iff_eq] at hl
    obtain ⟨rfl, rfl⟩ := hl
    obtain ⟨x, st', rfl, hx1, rfl⟩ := v_3 hs
    exact s_istore hx hb hx1 hd k
  case astore_n n =>
    simp only [x_fit, Bool.and_eq_true, beq_iff_eq] at hf
    obtain ⟨rfl, rfl⟩ := hf
    simp only [x_len, Bool.and_eq_true, beq_iff_eq] at hl
    obtain ⟨rfl, rfl⟩ := hl
    obtain ⟨x, st', rfl, hx1, rfl⟩ := v_4 hs
    exact s_astore_n hx hb hx1 hd k
  case iinc i n =>
    simp only [x_fit, Bool.and_eq_true, beq_iff_eq] at hf
    obtain ⟨⟨rfl, rfl⟩, rfl⟩ := hf
    simp only [x_len, Bool.and_eq_true, beq_iff_eq] at hl
    obtain ⟨rfl, rfl⟩ := hl
    obtain ⟨x, hx1, rfl⟩ := v_5 hs
    exact s_iinc hx hb hx1 hd k
  case iadd =>
    simp only [x_fit, Bool.and_eq_true, beq_iff_eq] at hf
    obtain ⟨rfl, rfl⟩ := hf
    simp only [x_len, Bool.and_eq_true, beq_iff_eq] at hl
    obtain ⟨rfl, rfl⟩ := hl
    obtain ⟨x, y, z, st', rfl, hz, -, rfl⟩ := v_6 hs
    obtain rfl := Option.some.inj hz
    exact s_iadd hx hb hd k
  case isub =>
    simp only [x_fit, Bool.and_eq_true, beq_iff_eq] at hf
    obtain ⟨rfl, rfl⟩ := hf
    simp only [x_len, Bool.and_eq_true, beq_iff_eq] at hl
    obtain ⟨rfl, rfl⟩ := hl
    obtain ⟨x, y, z, st', rfl, hz, -, rfl⟩ := v_6 hs
    obtain rfl := Option.some.inj hz
    exact s_isub hx hb hd k
  case imul =>
    simp only [x_fit, Bool.and_eq_true, beq_iff_eq] at hf
    obtain ⟨rfl, rfl⟩ := hf
    simp only [x_len, Bool.and_eq_true, beq_iff_eq] at hl
    obtain ⟨rfl, rfl⟩ := hl
    obtain ⟨x, y, z, st', rfl, hz, -, rfl⟩ := v_6 hs
    obtain rfl := Option.some.inj hz
    exact s_imul hx hb hd k
  case iand =>
    simp only [x_fit, Bool.and_eq_true, beq_iff_eq] at hf
    obtain ⟨rfl, rfl⟩ := hf
    simp only [x_len, Bool.and_eq_true, beq_iff_eq] at hl
    obtain ⟨rfl, rfl⟩ := hl
    obtain ⟨x, y, z, st', rfl, hz, -, rfl⟩ := v_6 hs
    obtain rfl := Option.some.inj hz
    exact s_iand hx hb hd k
  case ior =>
    simp only [x_fit, Bool.and_eq_true, beq_iff_eq] at hf
    obtain ⟨rfl, rfl⟩ := hf
    simp only [x_len, Bool.and_eq_true, beq_iff_eq] at hl
    obtain ⟨rfl, rfl⟩ := hl
    obtain ⟨x, y, z, st', rfl, hz, -, rfl⟩ := v_6 hs
    obtain rfl := Option.some.inj hz
    exact s_ior hx hb hd k
  case ixor =>
    simp only [x_fit, Bool.and_eq_true, beq_iff_eq] at hf
    obtain ⟨rfl, rfl⟩ := hf
    simp only [x_len, Bool.and_eq_true, beq_iff_eq] at hl
    obtain ⟨rfl, rfl⟩ := hl
    obtain ⟨x, y, z, st', rfl, hz, -, rfl⟩ := v_6 hs
    obtain rfl := Option.some.inj hz
    exact s_ixor hx hb hd k
  case ishl =>
    simp only [x_fit, Bool.and_eq_true, beq_iff_eq] at hf
    obtain ⟨rfl, rfl⟩ := hf
    simp only [x_len, Bool.and_eq_true, beq_iff_eq] at hl
    obtain ⟨rfl, rfl⟩ := hl
    obtain ⟨x, y, z, st', rfl, hz, -, rfl⟩ := v_6 hs
    obtain rfl := Option.some.inj hz
    exact s_ishl hx hb hd k
  case ishr =>
    simp only [x_fit, Bool.and_eq_true, beq_iff_eq] at hf
    obtain ⟨rfl, rfl⟩ := hf
    simp only [x_len, Bool.and_eq_true, beq_iff_eq] at hl
    obtain ⟨rfl, rfl⟩ := hl
    obtain ⟨x, y, z, st', rfl, hz, -, rfl⟩ := v_6 hs
    obtain rfl := Option.some.inj hz
    exact s_ishr hx hb hd k
  case iushr =>
    simp only [x_fit, Bool.and_eq_true, beq_iff_eq] at hf
    obtain ⟨rfl, rfl⟩ := hf
    simp only [x_len, Bool.and_eq_true, beq_iff_eq] at hl
    obtain ⟨rfl, rfl⟩ := hl
    obtain ⟨x, y, z, st', rfl, hz, -, rfl⟩ := v_6 hs
    obtain rfl := Option.some.inj hz
    exact s_iushr hx hb hd k
  case idiv =>
    simp only [x_fit, Bool.and_eq_true, beq_iff_eq] at hf
    obtain ⟨rfl, rfl⟩ := hf
    simp only [x_len, Bool.and_eq_true, beq_iff_eq] at hl
    obtain ⟨rfl, rfl⟩ := hl
    obtain ⟨x, y, z, st', rfl, hz, -, rfl⟩ := v_6 hs
    simp only [x_bin] at hz
    split at hz
    · cases hz
    · rename_i h0
      obtain rfl := Option.some.inj hz
      exact s_idiv hx hb h0 hd k
  case irem =>
    simp only [x_fit, Bool.and_eq_true, beq_iff_eq] at hf
    obtain ⟨rfl, rfl⟩ := hf
    simp only [x_len, Bool.and_eq_true, beq_iff_eq] at hl
    obtain ⟨rfl, rfl⟩ := hl
    obtain ⟨x, y, z, st', rfl, hz, -, rfl⟩ := v_6 hs
    simp only [x_bin] at hz
    split at hz
    · cases hz
    · rename_i h0
      obtain rfl := Option.some.inj hz
      exact s_irem hx hb h0 hd k
  case if_icmp cd off =>
    simp only [x_fit, Bool.and_eq_true, beq_iff_eq] at hf
    obtain ⟨⟨rfl, rfl⟩, ht⟩ := hf
    simp only [x_len, Bool.and_eq_true, beq_iff_eq] at hl
    obtain ⟨rfl, rfl⟩ := hl
    obtain ⟨x, y, st', rfl, rfl⟩ := v_7 hs
    dsimp only at k
    cases cd
    · exact s_icmp_eq hx hb ht hd (fun q => by rw [if_pos (by simp [x_cmp, x_cnd, q])] at k; exact k) (fun q => by rw [if_neg (by simp [x_cmp, x_cnd, q])] at k; exact k)
    · exact s_icmp_ne hx hb ht hd (fun q => by rw [if_pos (by simp [x_cmp, x_cnd, q])] at k; exact k) (fun q => by rw [if_neg (by simp [x_cmp, x_cnd, q])] at k; exact k)
    · exact s_icmp_lt hx hb ht hd (fun q => by rw [if_pos (by simp [x_cmp, x_cnd, q])] at k; exact k) (fun q => by rw [if_neg (by simp [x_cmp, x_cnd, q])] at k; exact k)
    · exact s_icmp_ge hx hb ht hd (fun q => by rw [if_pos (by simp [x_cmp, x_cnd, q])] at k; exact k) (fun q => by rw [if_neg (by simp [x_cmp, x_cnd, q])] at k; exact k)
    · exact s_icmp_gt hx hb ht hd (fun q => by rw [if_pos (by simp [x_cmp, x_cnd, q])] at k; exact k) (fun q => by rw [if_neg (by simp [x_cmp, x_cnd, q])] at k; exact k)
    · exact s_icmp_le hx hb ht hd (fun q => by rw [if_pos (by simp [x_cmp, x_cnd, q])] at k; exact k) (fun q => by rw [if_neg (by simp [x_cmp, x_cnd, q])] at k; exact k)
  case ifCond cd off =>
    simp only [x_fit, Bool.and_eq_true, beq_iff_eq] at hf
    obtain ⟨⟨rfl, rfl⟩, ht⟩ := hf
    simp only [x_len, Bool.and_eq_true, beq_iff_eq] at hl
    obtain ⟨rfl, rfl⟩ := hl
    obtain ⟨x, st', rfl, rfl⟩ := v_8 hs
    dsimp only at k
    cases cd
    · exact s_if_eq hx hb ht hd (fun q => by rw [if_pos (by simp [x_cmp, x_cnd, q])] at k; exact k) (fun q => by rw [if_neg (by simp [x_cmp, x_cnd, q])] at k; exact k)
    · exact s_if_ne hx hb ht hd (fun q => by rw [if_pos (by simp [x_cmp, x_cnd, q])] at k; exact k) (fun q => by rw [if_neg (by simp [x_cmp, x_cnd, q])] at k; exact k)
    · exact s_if_lt hx hb ht hd (fun q => by rw [if_pos (by simp [x_cmp, x_cnd, q])] at k; exact k) (fun q => by rw [if_neg (by simp [x_cmp, x_cnd, q])] at k; exact k)
    · exact s_if_ge hx hb ht hd (fun q => by rw [if_pos (by simp [x_cmp, x_cnd, q])] at k; exact k) (fun q => by rw [if_neg (by simp [x_cmp, x_cnd, q])] at k; exact k)
    · exact s_if_gt hx hb ht hd (fun q => by rw [if_pos (by simp [x_cmp, x_cnd, q])] at k; exact k) (fun q => by rw [if_neg (by simp [x_cmp, x_cnd, q])] at k; exact k)
    · exact s_if_le hx hb ht hd (fun q => by rw [if_pos (by simp [x_cmp, x_cnd, q])] at k; exact k) (fun q => by rw [if_neg (by simp [x_cmp, x_cnd, q])] at k; exact k)
  case goto off =>
    simp only [x_fit, Bool.and_eq_true, beq_iff_eq] at hf
    obtain ⟨rfl, ht⟩ := hf
    simp only [x_len, Bool.and_eq_true, beq_iff_eq] at hl
    obtain ⟨rfl, rfl⟩ := hl
    obtain rfl := v_9 hs
    exact s_goto hx hb ht hd k
  case dup =>
    simp only [x_fit, beq_iff_eq] at hf
    subst hf
    simp only [x_len, Bool.and_eq_true, beq_iff_eq] at hl
    obtain ⟨rfl, rfl⟩ := hl
    obtain ⟨x, st', rfl, h1, rfl⟩ := v_10 hs
    exact s_dup hx hb h1 hd k
  case dup2 =>
    simp only [x_fit, beq_iff_eq] at hf
    subst hf
    simp only [x_len, Bool.and_eq_true, beq_iff_eq] at hl
    obtain ⟨rfl, rfl⟩ := hl
    obtain ⟨x, y, st', rfl, h1, rfl⟩ := v_11 hs
    exact s_dup2 hx hb h1.1 h1.2 hd k
  case pop =>
    simp only [x_fit, beq_iff_eq] at hf
    subst hf
    simp only [x_len, Bool.and_eq_true, beq_iff_eq] at hl
    obtain ⟨rfl, rfl⟩ := hl
    obtain ⟨x, st', rfl, h1, rfl⟩ := v_12 hs
    exact s_pop hx hb h1 hd k
  case getfield i =>
    simp only [x_fit, Bool.and_eq_true, Bool.or_eq_true, beq_iff_eq] at hf
    obtain ⟨hz, hfl⟩ := hf
    obtain ⟨ha8, hbN, hlk⟩ := x_FL_use hfl
    simp only [x_len, Bool.and_eq_true, beq_iff_eq] at hl
    obtain ⟨rfl, rfl⟩ := hl
    rcases hz with ⟨rfl, hz⟩ | ⟨rfl, hz⟩
    · obtain ⟨x, st', rf, rfl, hq, rfl⟩ := v_13 hs
      exact s_get hx hb hown hts ha8 hbN hlk hq hd (v := .int (h.2 x b)) (fun ad => by unfold x_fv; rw [if_neg (by rcases hz with z | z <;> rw [z] <;> decide)]; rfl) k
    · obtain ⟨x, y, st', rf, rfl, ⟨hq, hy⟩, rfl⟩ := v_14 hs
      exact s_get hx hb hown hts ha8 hbN hlk hq hd (v := .ref y) (fun ad => by unfold x_fv; rw [if_pos hz, hy]; rfl) k
  case putfield i =>
    simp only [x_fit, Bool.and_eq_true, Bool.or_eq_true, beq_iff_eq] at hf
    obtain ⟨hz, hfl⟩ := hf
    obtain ⟨ha8, hbN, hlk⟩ := x_FL_use hfl
    have hku := x_kd_use ha8 hbN
    simp only [x_len, Bool.and_eq_true, beq_iff_eq] at hl
    obtain ⟨rfl, rfl⟩ := hl
    rcases hz with (⟨rfl, hz⟩ | ⟨rfl, hz⟩) | ⟨⟨⟨rfl, hz⟩, hini⟩, rfl⟩
    · obtain ⟨x, y, st', rf, rfl, hq, rfl⟩ := v_15 hs
      rw [hz] at hku
      rcases hku with ⟨-, t1, t2⟩ | ⟨t0, -⟩ | ⟨t0, -⟩
      · exact s_put hx hb hown hts ha8 hbN hlk hq (by rw [hz]; decide) t2 (by rw [t1]; rfl) (by rw [t1]; rfl) hd k
      · cases t0
      · cases t0
    · obtain ⟨x, y, st', rf, rfl, ⟨hq, hy⟩, rfl⟩ := v_16 hs
      rw [hz] at hku
      rcases hku with ⟨t0, -⟩ | ⟨-, t1, t2⟩ | ⟨t0, -⟩
      · cases t0
      · exact s_put hx hb hown hts ha8 hbN hlk hq (by rw [hz]; decide) t2 (by rw [t1]; rcases hy with rfl | rfl <;> rfl) (by rw [t1]; rcases hy with rfl | rfl <;> rfl) hd k
      · cases t0
    · obtain ⟨x, y, st', rf, rfl, ⟨hq, hy⟩, rfl⟩ := v_17 hs
      rw [hz] at hku
      rcases hku with ⟨t0, -⟩ | ⟨t0, -⟩ | ⟨-, t1, t2, t3⟩
      · cases t0
      · cases t0
      · exact s_putR hx hb hown hts ha8 hbN hlk hq hz hy t1 t2 (hnm hini) t3 hd k
  case iaload =>
    simp only [x_fit, beq_iff_eq] at hf
    subst hf
    simp only [x_len, Bool.and_eq_true, beq_iff_eq] at hl
    obtain ⟨rfl, rfl⟩ := hl
    obtain ⟨x, n, i, st', rf, rfl, ⟨hq, hi⟩, rfl⟩ := v_18 hs
    exact s_iald hx hb hq (x_in_of hi) hd k
  case iastore =>
    simp only [x_fit, beq_iff_eq] at hf
    subst hf
    simp only [x_len, Bool.and_eq_true, beq_iff_eq] at hl
    obtain ⟨rfl, rfl⟩ := hl
    obtain ⟨x, n, i, y, st', rf, rfl, ⟨hq, hi⟩, rfl⟩ := v_19 hs
    exact s_iast hx hb hq (x_in_of hi) hd k
  case baload =>
    simp only [x_fit, beq_iff_eq] at hf
    subst hf
    simp only [x_len, Bool.and_eq_true, beq_iff_eq] at hl
    obtain ⟨rfl, rfl⟩ := hl
    obtain ⟨x, n, i, st', rf, rfl, ⟨hq, hi⟩, rfl⟩ := v_20 hs
    exact s_zald hx hb hq (x_in_of hi) hd k
  case bastore =>
    simp only [x_fit, beq_iff_eq] at hf
    subst hf
    simp only [x_len, Bool.and_eq_true, beq_iff_eq] at hl
    obtain ⟨rfl, rfl⟩ := hl
    obtain ⟨x, n, i, y, st', rf, rfl, ⟨hq, hi, hy⟩, rfl⟩ := v_21 hs
    exact s_zast hx hb hq (x_in_of hi) hy hd k
  case aaload =>
    simp only [x_fit, beq_iff_eq] at hf
    subst hf
    simp only [x_len, Bool.and_eq_true, beq_iff_eq] at hl
    obtain ⟨rfl, rfl⟩ := hl
    obtain ⟨x, n, y, i, st', rf, rfl, ⟨hq, hi, hy⟩, rfl⟩ := v_22 hs
    exact s_aald hx hb hq (x_in_of hi) hy hd k
  case aastore =>
    simp only [x_fit, beq_iff_eq] at hf
    subst hf
    simp only [x_len, Bool.and_eq_true, beq_iff_eq] at hl
    obtain ⟨rfl, rfl⟩ := hl
    obtain ⟨x, n, y, i, st', rf, rf2, rfl, ⟨hq, hq2, hi, hy⟩, rfl⟩ := v_23 hs
    exact s_aast hx hb hq hq2 (x_in_of hi) hy hd k
  case arraylength =>
    simp only [x_fit, beq_iff_eq] at hf
    subst hf
    simp only [x_len, Bool.and_eq_true, beq_iff_eq] at hl
    obtain ⟨rfl, rfl⟩ := hl
    obtain ⟨x, n, t, st', rf, rfl, ⟨hq, ht⟩, rfl⟩ := v_24 hs
    rcases (show t = 0 ∨ t = 1 by omega) with rfl | rfl
    · exact s_alen1 hx hb hq hd k
    · exact s_alen2 hx hb hq hd k
  case invokestatic i =>
    simp only [x_fit, Bool.and_eq_true, Bool.or_eq_true, beq_iff_eq] at hf
    simp only [x_len, Bool.and_eq_true, beq_iff_eq] at hl
    obtain ⟨rfl, rfl⟩ := hl
    rcases hf with (⟨⟨rfl, -⟩, -⟩ | ⟨rfl, hz⟩) | ⟨⟨rfl, hb2⟩, hz⟩
    · exact (v_25 hs).elim
    · obtain ⟨x, y, n0', n1, sp, dp, n, st', rf, rf2, rfl, ⟨hq, hq2, h1, h2, h3, h4, h5, h6⟩, rfl⟩ := v_33 hs
      exact s_copy hx hb hown hts (x_AL_use hz) (hml.trans hlen.symm) h6 hF hLo hq hq2 h1 h2 h3 h4 h5 hd k
    · obtain ⟨x, y, z, st', rfl, hz2, h50, rfl⟩ := v_6 hs
      have hu := x_XL_use hz
      rcases hb2 with rfl | rfl
      · obtain rfl := Option.some.inj hz2
        exact s_mmax hx hb hown hts hu (hml.trans hlen.symm) h50 hF hLo hr1 hr2 hd k
      · obtain rfl := Option.some.inj hz2
        exact s_mmin hx hb hown hts hu (hml.trans hlen.symm) h50 hF hLo hr1 hr2 hd k
  case invokevirtual i =>
    simp only [x_fit, Bool.and_eq_true, Bool.or_eq_true, beq_iff_eq] at hf
    obtain ⟨⟨rfl, -⟩, -⟩ := hf
    exact (v_26 hs).elim
  case invokespecial i =>
    simp only [x_fit, Bool.and_eq_true, Bool.or_eq_true, beq_iff_eq] at hf
    simp only [x_len, Bool.and_eq_true, beq_iff_eq] at hl
    obtain ⟨rfl, rfl⟩ := hl
    rcases hf with ⟨⟨rfl, -⟩, -⟩ | ⟨rfl, hz⟩
    · exact (v_26 hs).elim
    · obtain ⟨x, st', rfl, h4, rfl⟩ := v_32 hs
      exact s_objInit hx hb hown hts (x_OL_use hz) (hml.trans hlen.symm) h4 hF hLo hd k
  case ireturn =>
    simp only [x_fit, beq_iff_eq] at hf
    subst hf
    exact (v_27 hs).elim
  case return_ =>
    simp only [x_fit, beq_iff_eq] at hf
    subst hf
    exact (v_28 hs).elim
  case new i =>
    simp only [x_fit, Bool.and_eq_true, beq_iff_eq, decide_eq_true_eq] at hf
    obtain ⟨⟨rfl, hz⟩, ha8⟩ := hf
    simp only [x_len, Bool.and_eq_true, beq_iff_eq] at hl
    obtain ⟨rfl, rfl⟩ := hl
    obtain ⟨hok, rfl⟩ := v_29 hs
    rw [show (x_push h.1 h.2 (0, a, List.replicate (x_nf.getD a 0) none)).1.length = h.1.length + 1 by simp [x_push]] at hr1
    rw [x_sl_push] at hr2
    exact s_new hx hb hown hts hr1 hA hok ha8 hr2 (x_KL_use hz) hd k
  case newarray t =>
    cases t
    case int =>
      simp only [x_fit, Bool.and_eq_true, beq_iff_eq] at hf
      obtain ⟨rfl, rfl⟩ := hf
      simp only [x_len, Bool.and_eq_true, beq_iff_eq] at hl
      obtain ⟨rfl, rfl⟩ := hl
      obtain ⟨n, st', rfl, ⟨hok, h1, h2, -⟩, rfl⟩ := v_30 hs
      rw [show (x_push h.1 h.2 (1, n.toNatClampNeg, [])).1.length = h.1.length + 1 by simp [x_push]] at hr1
      rw [x_sl_push] at hr2
      exact s_newI (cn := q.2.2.2.2.2.1) hx hb hown hts hr1 hA hok h1 h2 hr2 hd k
    case boolean =>
      simp only [x_fit, Bool.and_eq_true, beq_iff_eq] at hf
      obtain ⟨rfl, rfl⟩ := hf
      simp only [x_len, Bool.and_eq_true, beq_iff_eq] at hl
      obtain ⟨rfl, rfl⟩ := hl
      obtain ⟨n, st', rfl, ⟨hok, h1, h2, -⟩, rfl⟩ := v_30 hs
      rw [show (x_push h.1 h.2 (2, n.toNatClampNeg, [])).1.length = h.1.length + 1 by simp [x_push]] at hr1
      rw [x_sl_push] at hr2
      exact s_newZ (cn := q.2.2.2.2.2.1) hx hb hown hts hr1 hA hok h1 h2 hr2 hd k
    all_goals (simp [x_fit] at hf)
  case anewarray i =>
    simp only [x_fit, Bool.and_eq_true, beq_iff_eq] at hf
    obtain ⟨⟨rfl, rfl⟩, hz⟩ := hf
    simp only [x_len, Bool.and_eq_true, beq_iff_eq] at hl
    obtain ⟨rfl, rfl⟩ := hl
    obtain ⟨n, st', rfl, ⟨hok, h1, h2⟩, rfl⟩ := v_31 hs
    rw [show (x_push h.1 h.2 (3, n.toNatClampNeg, List.replicate n.toNatClampNeg none)).1.length = h.1.length + 1 by simp [x_push]] at hr1
    rw [x_sl_push] at hr2
    exact s_newO hx hb hown hts hr1 hA hok hao (x_KL_use hz) h1 h2 hr2 hd k
  case tableswitch d lo hi offs =>
    simp only [x_fit, Bool.and_eq_true, beq_iff_eq] at hf
    obtain ⟨⟨⟨rfl, h1⟩, h2⟩, h3⟩ := hf
    obtain ⟨x, st', rfl, rfl⟩ := v_34 hs
    exact s_table hx hb h1 h2 h3 hd k
  case lookupswitch d ps =>
    simp only [x_fit, Bool.and_eq_true, beq_iff_eq] at hf
    obtain ⟨⟨⟨rfl, h1⟩, h2⟩, h3⟩ := hf
    obtain ⟨x, st', rfl, rfl⟩ := v_34 hs
    exact s_look hx hb h1 h2 h3 hd k
  all_goals (exact absurd hf (by simp [x_fit]))
end Comb
