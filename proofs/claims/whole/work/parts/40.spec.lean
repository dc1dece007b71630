/-! THE ABSTRACT STATE -/
/-- things, seasons, cases, what each bears, the lights -/
abbrev sT : Type := Nat × Nat × Nat × (Nat → Nat) × (Nat → Nat)
/-- set down (season, case), loans, barred (bits), rules (bits) -/
abbrev sW : Type := (Nat → Nat → Option Nat) × (Nat → Option (Nat × Nat)) × (Nat → Nat) × Nat
/-- text, told, wishes, undo (latest first), images, seen -/
abbrev sS : Type := List Int32 × sT × sW × List sW × (Option sW × Option sW) × List Int32
def oI (o : Option Nat) : Int32 := match o with
  | none => -9
  | some n => nI n
def lF (o : Option (Nat × Nat)) : Int32 := match o with
  | none => -9
  | some p => nI p.1
def lT (o : Option (Nat × Nat)) : Int32 := match o with
  | none => -9
  | some p => nI p.2
def s_w0 : sW := (fun _ _ => none, fun _ => none, fun _ => 0, 15)
/-! plans: a list of things, the latest place first -/
def p_on (w : sW) (r : Nat) : Bool := w.2.2.2.testBit r
/-- may t stand at place j, light and the other case let be; br: the thing that is broken -/
def p_al (d : sT) (w : sW) (br : Option Nat) (j t : Nat) : Bool := decide (br ≠ some t) &&
  (!p_on w 3 || (match w.1 (j / d.2.2.1) (j % d.2.2.1) with
    | none => true
    | some x => decide (x = t))) &&
  (!p_on w 1 || (match w.2.1 t with
    | none => true
    | some p => !(decide (p.1 ≤ j / d.2.2.1) && decide (j / d.2.2.1 ≤ p.2))))
def p_cf (w : sW) (t u : Nat) : Bool := decide (t = u) || (p_on w 2 && (w.2.2.1 t).testBit u)
def p_lt (d : sT) (j : Nat) : Nat := d.2.2.2.2 (j / d.2.2.1)
def p_cp (d : sT) (w : sW) (more t : Nat) : Nat := if p_on w 0 then d.2.2.2.1 t + more else 1000
def p_sm (d : sT) : List Nat → Nat → Nat
  | [], _ => 0
  | x :: l, t => p_sm d l t + (if x = t then p_lt d l.length else 0)
def p_c1 (d : sT) (l : List Nat) (x : Nat) : Nat := if d.2.2.1 ≤ l.length ∧ l[d.2.2.1 - 1]? ≠ some x then 1 else 0
def p_ch (d : sT) : List Nat → Nat
  | [] => 0
  | x :: l => p_ch d l + p_c1 d l x
def p_mo (d : sT) : List Nat → Nat
  | [] => 0
  | x :: l => max (p_mo d l) (p_sm d (x :: l) x)
/-- the other case of the same season, if it is filled already -/
def p_sd (d : sT) (l : List Nat) : Option Nat := if l.length % d.2.2.1 = 0 then none else l[0]?
def p_pl (d : sT) (w : sW) (br : Option Nat) (more : Nat) (l : List Nat) (t : Nat) : Bool := p_al d w br l.length t && (match p_sd d l with
  | none => true
  | some u => !p_cf w t u) && decide (p_sm d l t + p_lt d l.length ≤ p_cp d w more t)
/-- all plans behind l, k places more, in their order -/
def p_ext (d : sT) (w : sW) (br : Option Nat) (more : Nat) : Nat → List Nat → List (List Nat)
  | 0, l => [l]
  | k + 1, l => (List.range d.1).flatMap (fun t => if p_pl d w br more l t then p_ext d w br more k (t :: l) else [])
def p_N (d : sT) : Nat := d.2.1 * d.2.2.1
def p_all (d : sT) (w : sW) (br : Option Nat) (more : Nat) : List (List Nat) := p_ext d w br more (p_N d) []
/-- the best so far: changes, most, the plan -/
def p_upd (d : sT) (a : Option (Nat × Nat × List Nat)) (l : List Nat) : Option (Nat × Nat × List Nat) := match a with
  | none => some (p_ch d l, p_mo d l, l)
  | some q => if p_ch d l < q.1 ∨ (p_ch d l = q.1 ∧ p_mo d l < q.2.1) then some (p_ch d l, p_mo d l, l) else some q
def p_best (d : sT) (w : sW) (br : Option Nat) : Option (Nat × Nat × List Nat) := (p_all d w br 0).foldl (p_upd d) none
/-- changes, if there is a plan -/
def p_chg (d : sT) (w : sW) (br : Option Nat) : Option Nat := (p_best d w br).map (fun q => q.1)
/-- the thing at place j of a plan -/
def p_at (l : List Nat) (j : Nat) : Nat := l.getD (l.length - 1 - j) 0
/-! what is well -/
def okT (d : sT) : Prop := d.1 ≤ 6 ∧ 1 ≤ d.2.1 ∧ d.2.1 ≤ 4 ∧ 1 ≤ d.2.2.1 ∧ d.2.2.1 ≤ 2 ∧ (∀ t, t < d.1 → d.2.2.2.1 t ≤ 99) ∧ ∀ s, s < d.2.1 → d.2.2.2.2 s ≤ 30
def okW (d : sT) (w : sW) : Prop := (∀ s b x, s < d.2.1 → b < d.2.2.1 → w.1 s b = some x → x < d.1) ∧ (∀ t p, t < 6 → w.2.1 t = some p → t < d.1 ∧ p.1 ≤ p.2 ∧ p.2 < d.2.1) ∧ (∀ t u, t < 6 → u < 6 → (w.2.2.1 t).testBit u = (w.2.2.1 u).testBit t) ∧ (∀ t, t < 6 → (w.2.2.1 t).testBit t = false) ∧ (∀ t u, t < 6 → (w.2.2.1 t).testBit u = true → t < d.1 ∧ u < d.1) ∧ (∀ t, t < 6 → w.2.2.1 t < 64) ∧ w.2.2.2 < 16
def okS (z : sS) : Prop := z.1.length ≤ 100 ∧ (∀ c ∈ z.1, 0 ≤ c.toInt ∧ c.toInt ≤ 255) ∧ okT z.2.1 ∧ okW z.2.1 z.2.2.1 ∧ z.2.2.2.1.length ≤ 10 ∧ (∀ w ∈ z.2.2.2.1, okW z.2.1 w) ∧ (∀ w, z.2.2.2.2.1.1 = some w → okW z.2.1 w) ∧ (∀ w, z.2.2.2.2.1.2 = some w → okW z.2.1 w) ∧ z.2.2.2.2.2.length ≤ 4
/-! the cells that hold it: the class's -/
def cW (d : sT) (V : xV) (a : Nat) (w : sW) : Prop := (∀ s b, s < d.2.1 → b < d.2.2.1 → V (a + 1) (s * d.2.2.1 + b) = oI (w.1 s b)) ∧ (∀ t, t < 6 → V (a + 2) t = lF (w.2.1 t) ∧ V (a + 3) t = lT (w.2.1 t) ∧ V (a + 4) t = nI (w.2.2.1 t)) ∧ V a 4 = nI w.2.2.2
def cTx (V : xV) (x : List Int32) : Prop := V 0 1 = nI x.length ∧ ∀ i c, x[i]? = some c → V 1 i = c
def cTo (V : xV) (d : sT) : Prop := V 2 0 = nI d.1 ∧ V 2 1 = nI d.2.1 ∧ V 2 2 = nI d.2.2.1 ∧ (∀ t, t < d.1 → V 3 t = nI (d.2.2.2.1 t)) ∧ ∀ s, s < d.2.1 → V 4 s = nI (d.2.2.2.2 s)
def cHi (d : sT) (V : xV) (h : List sW) : Prop := V 19 2 = nI h.length ∧ ∃ x, x < 10 ∧ V 19 1 = nI x ∧ ∀ i w, h[i]? = some w → cW d V (21 + 5 * ((x + 9 - i) % 10)) w
def cIm (d : sT) (V : xV) (m : Option sW × Option sW) : Prop := V 0 7 = nI ((if m.1.isSome then 1 else 0) + (if m.2.isSome then 2 else 0)) ∧ (∀ w, m.1 = some w → cW d V 86 w) ∧ ∀ w, m.2 = some w → cW d V 91 w
def cSe (V : xV) (e : List Int32) : Prop := V 0 9 = nI e.length ∧ ∀ i c, e[i]? = some c → V 72 i = c
/-- what the class holds of its plan: nothing, or what is so -/
def cCa (V : xV) (d : sT) (w : sW) : Prop := V 73 5 = -5 ∨ (V 73 5 = oI (p_chg d w none) ∧ (∀ q, p_best d w none = some q → V 73 6 = nI q.2.1 ∧ ∀ j, j < p_N d → V 74 j = nI (p_at q.2.2 j)) ∧ ∀ t, t < d.1 → V 75 t = -5 ∨ V 75 t = oI (p_chg d w (some t)))
def Cls (z : sS) (V : xV) : Prop := cTx V z.1 ∧ cTo V z.2.1 ∧ cW z.2.1 V 5 z.2.2.1 ∧ cHi z.2.1 V z.2.2.2.1 ∧ cIm z.2.1 V z.2.2.2.2.1 ∧ cSe V z.2.2.2.2.2 ∧ cCa V z.2.1 z.2.2.1
/-! the reference's -/
def mW (d : sT) (f : Nat → Int32) (o : Nat) (w : sW) : Prop := (∀ s b, s < d.2.1 → b < d.2.2.1 → f (o + (2 * s + b)) = oI (w.1 s b)) ∧ (∀ t, t < 6 → f (o + (8 + t)) = lF (w.2.1 t) ∧ f (o + (14 + t)) = lT (w.2.1 t) ∧ f (o + (20 + t)) = nI (w.2.2.1 t)) ∧ f (o + 26) = nI w.2.2.2
def mTx (V : xV) (x : List Int32) : Prop := V 96 2 = nI x.length ∧ ∀ i c, x[i]? = some c → V 97 i = c
def mTo (V : xV) (d : sT) : Prop := V 96 8 = nI d.1 ∧ V 96 9 = nI d.2.1 ∧ V 96 10 = nI d.2.2.1 ∧ (∀ t, t < d.1 → V 99 t = nI (d.2.2.2.1 t)) ∧ ∀ s, s < d.2.1 → V 98 s = nI (d.2.2.2.2 s)
def mHi (d : sT) (V : xV) (h : List sW) : Prop := V 96 23 = nI h.length ∧ ∀ i w, h[i]? = some w → mW d (V 104) (27 * (h.length - 1 - i)) w
def mIm (d : sT) (V : xV) (m : Option sW × Option sW) : Prop := V 106 0 = nI (if m.1.isSome then 1 else 0) ∧ V 106 1 = nI (if m.2.isSome then 1 else 0) ∧ (∀ w, m.1 = some w → mW d (V 105) 0 w) ∧ ∀ w, m.2 = some w → mW d (V 105) 27 w
def mSe (V : xV) (e : List Int32) : Prop := V 96 27 = nI e.length ∧ ∀ i c, e[i]? = some c → V 107 i = c
def Mdl (z : sS) (V : xV) : Prop := mTx V z.1 ∧ mTo V z.2.1 ∧ mW z.2.1 (V 103) 0 z.2.2.1 ∧ mHi z.2.1 V z.2.2.2.1 ∧ mIm z.2.1 V z.2.2.2.2.1 ∧ mSe V z.2.2.2.2.2
def Sim (V : xV) : Prop := ∃ z, okS z ∧ Cls z V ∧ Mdl z V
/-! frames -/
def frC (V V' : xV) : Prop := ∀ a, 96 ≤ a → V' a = V a
def frM (V V' : xV) : Prop := ∀ a, a < 96 → V' a = V a
theorem cW.cg {d : sT} {V V' : xV} {a : Nat} {w : sW} (h : cW d V a w) (e : ∀ b, a ≤ b → b ≤ a + 4 → V' b = V b) : cW d V' a w := by
  refine ⟨fun s b hs hb => ?_, fun t ht => ?_, ?_⟩
  · rw [e (a + 1) (by omega) (by omega)]; exact h.1 s b hs hb
  · rw [e (a + 2) (by omega) (by omega), e (a + 3) (by omega) (by omega), e (a + 4) (by omega) (by omega)]; exact h.2.1 t ht
  · rw [e a (by omega) (by omega)]; exact h.2.2
theorem cTx.cg {V V' : xV} {x : List Int32} (h : cTx V x) (e0 : V' 0 1 = V 0 1) (e : V' 1 = V 1) : cTx V' x := ⟨e0.trans h.1, fun i c hc => by rw [e]; exact h.2 i c hc⟩
theorem cTo.cg {V V' : xV} {d : sT} (h : cTo V d) (e : ∀ a, 2 ≤ a → a ≤ 4 → V' a = V a) : cTo V' d := by
  unfold cTo
  rw [e 2 (by decide) (by decide), e 3 (by decide) (by decide), e 4 (by decide) (by decide)]
  exact h
theorem cHi.cg {d : sT} {V V' : xV} {x : List sW} (h : cHi d V x) (e : ∀ a, 19 ≤ a → a ≤ 70 → V' a = V a) : cHi d V' x := by
  obtain ⟨h1, y, h2, h3, h4⟩ := h
  refine ⟨by rw [e 19 (by decide) (by decide)]; exact h1, y, h2, by rw [e 19 (by decide) (by decide)]; exact h3, fun i w hw => (h4 i w hw).cg (fun b hb1 hb2 => e b (by omega) ?_)⟩
  have : (y + 9 - i) % 10 < 10 := Nat.mod_lt _ (by decide)
  omega
theorem cIm.cg {d : sT} {V V' : xV} {m : Option sW × Option sW} (h : cIm d V m) (e0 : V' 0 7 = V 0 7) (e : ∀ a, 86 ≤ a → a ≤ 95 → V' a = V a) : cIm d V' m :=
  ⟨e0.trans h.1, fun w hw => (h.2.1 w hw).cg (fun b _ _ => e b (by omega) (by omega)), fun w hw => (h.2.2 w hw).cg (fun b _ _ => e b (by omega) (by omega))⟩
theorem cSe.cg {V V' : xV} {x : List Int32} (h : cSe V x) (e0 : V' 0 9 = V 0 9) (e : V' 72 = V 72) : cSe V' x := ⟨e0.trans h.1, fun i c hc => by rw [e]; exact h.2 i c hc⟩
theorem cCa.cg {V V' : xV} {d : sT} {w : sW} (h : cCa V d w) (e : ∀ a, 73 ≤ a → a ≤ 75 → V' a = V a) : cCa V' d w := by
  unfold cCa
  rw [e 73 (by decide) (by decide), e 74 (by decide) (by decide), e 75 (by decide) (by decide)]
  exact h
theorem cCa.stale {V : xV} {d : sT} {w : sW} (h : V 73 5 = -5) : cCa V d w := Or.inl h
theorem Cls.cg {z : sS} {V V' : xV} (h : Cls z V) (e : ∀ a, a < 96 → V' a = V a) : Cls z V' := by
  obtain ⟨h1, h2, h3, h4, h5, h6, h7⟩ := h
  exact ⟨h1.cg (by rw [e 0 (by decide)]) (e 1 (by decide)), h2.cg (fun a _ _ => e a (by omega)), h3.cg (fun a _ _ => e a (by omega)), h4.cg (fun a _ _ => e a (by omega)), h5.cg (by rw [e 0 (by decide)]) (fun a _ _ => e a (by omega)), h6.cg (by rw [e 0 (by decide)]) (e 72 (by decide)), h7.cg (fun a _ _ => e a (by omega))⟩
theorem mW.cg {d : sT} {f f' : Nat → Int32} {o : Nat} {w : sW} (h : mW d f o w) (hd : okT d) (e : ∀ k, k < 27 → f' (o + k) = f (o + k)) : mW d f' o w := by
  obtain ⟨h1, h2, h3⟩ := h
  obtain ⟨-, -, d1, -, d2, -⟩ := hd
  refine ⟨fun s b hs hb => ?_, fun t ht => ?_, ?_⟩
  · rw [e _ (by omega)]; exact h1 s b hs hb
  · rw [e _ (by omega), e _ (by omega), e _ (by omega)]; exact h2 t ht
  · rw [e _ (by omega)]; exact h3
theorem mTx.cg {V V' : xV} {x : List Int32} (h : mTx V x) (e0 : V' 96 2 = V 96 2) (e : V' 97 = V 97) : mTx V' x := ⟨e0.trans h.1, fun i c hc => by rw [e]; exact h.2 i c hc⟩
theorem mTo.cg {V V' : xV} {d : sT} (h : mTo V d) (e1 : V' 96 8 = V 96 8) (e2 : V' 96 9 = V 96 9) (e3 : V' 96 10 = V 96 10) (e4 : V' 99 = V 99) (e5 : V' 98 = V 98) : mTo V' d := by
  unfold mTo
  rw [e1, e2, e3, e4, e5]
  exact h
theorem mHi.cg {d : sT} {V V' : xV} {x : List sW} (h : mHi d V x) (e1 : V' 96 23 = V 96 23) (e2 : V' 104 = V 104) : mHi d V' x := by
  unfold mHi
  rw [e1, e2]
  exact h
theorem mIm.cg {d : sT} {V V' : xV} {m : Option sW × Option sW} (h : mIm d V m) (e1 : V' 106 = V 106) (e2 : V' 105 = V 105) : mIm d V' m := by
  unfold mIm
  rw [e1, e2]
  exact h
theorem mSe.cg {V V' : xV} {x : List Int32} (h : mSe V x) (e0 : V' 96 27 = V 96 27) (e : V' 107 = V 107) : mSe V' x := ⟨e0.trans h.1, fun i c hc => by rw [e]; exact h.2 i c hc⟩
theorem Mdl.cg {z : sS} {V V' : xV} (h : Mdl z V) (e : ∀ a, 96 ≤ a → V' a = V a) : Mdl z V' := by
  unfold Mdl mTx mTo mHi mIm mSe
  rw [e 96 (by decide), e 97 (by decide), e 98 (by decide), e 99 (by decide), e 103 (by decide), e 104 (by decide), e 105 (by decide), e 106 (by decide), e 107 (by decide)]
  exact h
