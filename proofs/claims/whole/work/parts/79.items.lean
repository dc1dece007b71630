/-! items -/
def updN {A : Type} (f : Nat → A) (k : Nat) (v : A) : Nat → A := fun j => if j = k then v else f j
/-- what is read so far: told, wishes, cases told, lights told -/
abbrev rS : Type := sT × sW × Bool × Bool
def endI (x : List Int32) (r : rS) (p : Nat) : Sum Nat (rS × Nat) := if (tk x p).1 = 3 then .inr (r, (tk x p).2.2.1) else .inl (tk x p).2.1
def numI (x : List Int32) (p lo hi : Nat) (k : Nat → Nat → Sum Nat (rS × Nat)) : Sum Nat (rS × Nat) := if nrm x p lo hi then k (tk x p).2.2.2 (tk x p).2.2.1 else .inl (tk x p).2.1
def pC (x : List Int32) (r : rS) (s p : Nat) : Sum Nat (rS × Nat) := if r.2.2.1 || decide (0 < r.1.1) then .inl s else numI x p 1 3 (fun v e => endI x ((r.1.1, r.1.2.1, v, r.1.2.2.2.1, r.1.2.2.2.2), r.2.1, true, r.2.2.2) e)
def pT (x : List Int32) (r : rS) (s p : Nat) : Sum Nat (rS × Nat) := if 6 ≤ r.1.1 then .inl s else numI x p 0 100 (fun v e => endI x ((r.1.1 + 1, r.1.2.1, r.1.2.2.1, updN r.1.2.2.2.1 r.1.1 v, r.1.2.2.2.2), r.2) e)
def pX (x : List Int32) (r : rS) (p : Nat) : Sum Nat (rS × Nat) := numI x p 0 r.1.1 (fun t e => numI x e 0 r.1.1 (fun o e2 => if o = t ∨ (r.2.1.2.2.1 t).testBit o = true then .inl (tk x e).2.1 else endI x (r.1, w_pair r.2.1 t o, r.2.2) e2))
def pA (x : List Int32) (r : rS) (p : Nat) : Sum Nat (rS × Nat) := numI x p 0 r.1.1 (fun t e => numI x e 0 r.1.2.1 (fun f e2 => numI x e2 f r.1.2.1 (fun g e3 => endI x (r.1, (r.2.1.1, updN r.2.1.2.1 t (some (f, g)), r.2.1.2.2), r.2.2) e3)))
def pLl (x : List Int32) (r : rS) : Nat → Nat → Nat → Sum Nat (rS × Nat)
  | 0, _, p => endI x r p
  | m + 1, i, p => if (tk x p).1 = 3 ∧ 0 < i then .inr (r, (tk x p).2.2.1) else numI x p 0 31 (fun v e => pLl x ((r.1.1, i + 1, r.1.2.2.1, r.1.2.2.2.1, updN r.1.2.2.2.2 i v), r.2) m (i + 1) e)
def pL (x : List Int32) (r : rS) (s p : Nat) : Sum Nat (rS × Nat) := if r.2.2.2 || decide (0 < r.1.1) then .inl s else pLl x (r.1, r.2.1, r.2.2.1, true) 4 0 p
/-- an item that begins with the word at p -/
def pI (x : List Int32) (r : rS) (p : Nat) : Sum Nat (rS × Nat) := if (tk x p).1 = 1 then (if chA x (tk x p).2.1 = 97 then pA x r (tk x p).2.2.1 else if chA x (tk x p).2.1 = 99 then pC x r (tk x p).2.1 (tk x p).2.2.1 else if chA x (tk x p).2.1 = 108 then pL x r (tk x p).2.1 (tk x p).2.2.1 else if chA x (tk x p).2.1 = 116 then pT x r (tk x p).2.1 (tk x p).2.2.1 else pX x r (tk x p).2.2.1) else .inl (tk x p).2.1
/-- what is read, in the class's cells -/
def cRs (V : xV) (r : rS) : Prop := V 11 0 = nI r.1.1 ∧ V 11 1 = nI r.1.2.1 ∧ V 11 2 = nI r.1.2.2.1 ∧ (∀ t, t < r.1.1 → V 12 t = nI (r.1.2.2.2.1 t)) ∧ (∀ s, s < r.1.2.1 → V 13 s = nI (r.1.2.2.2.2 s)) ∧ (∀ j, j < 8 → V 15 j = -9) ∧ (∀ t, t < 6 → V 16 t = lF (r.2.1.2.1 t) ∧ V 17 t = lT (r.2.1.2.1 t) ∧ V 18 t = nI (r.2.1.2.2.1 t)) ∧ V 14 4 = nI 15 ∧ V 10 8 = bI r.2.2.1 ∧ V 10 9 = bI r.2.2.2
def okR (r : rS) : Prop := okT r.1 ∧ okW r.1 r.2.1 ∧ (∀ s b, r.2.1.1 s b = none) ∧ r.2.1.2.2.2 = 15
/-- the class behind an item -/
def cOut (x : List Int32) (V V' : xV) (b : Int32) (q : Sum Nat (rS × Nat)) : Prop := (∀ a, a < 10 ∨ 18 < a → V' a = V a) ∧ V' 10 3 = V 10 3 ∧ match q with
  | .inl s => b = 0 ∧ V' 10 5 = nI s
  | .inr o => b = 1 ∧ cRs V' o.1 ∧ V' 10 4 = nI o.2
section IT
variable {x : List Int32} {V : xV}
theorem cRs.cg {V V' : xV} {r : rS} (h : cRs V r) (e : ∀ a, 11 ≤ a → a ≤ 18 → V' a = V a) (e8 : V' 10 8 = V 10 8) (e9 : V' 10 9 = V 10 9) : cRs V' r := by
  unfold cRs
  rw [e 11 (by decide) (by decide), e 12 (by decide) (by decide), e 13 (by decide) (by decide), e 14 (by decide) (by decide), e 15 (by decide) (by decide), e 16 (by decide) (by decide), e 17 (by decide) (by decide), e 18 (by decide) (by decide), e8, e9]
  exact h
theorem c_endI (hl : x.length ≤ 100) {p : Nat} (hp : p ≤ x.length) {V0 : xV} {r : rS} (ht : cTx V x) (h3 : V 10 3 = nI x.length) (h4 : V 10 4 = nI p) (hr : cRs V r) (f0 : ∀ a, a < 10 ∨ 18 < a → V a = V0 a) (f3 : V 10 3 = V0 10 3) : ∃ b V', x_b2 (f_X1_nextIsEnd V) (fun x9 V8 => if x9 = 0 ∨ x9 = 1 then some (x9, V8) else none) = some (b, V') ∧ cOut x V0 V' b (endI x r p) := by
  obtain ⟨V', e, f1, f2, v4, v5⟩ := c_end hl hp ht h3 h4
  refine ⟨_, V', by rw [e, x_b2_some, if_pos (by cases decide ((tk x p).1 = 3) <;> decide)], ⟨fun a ha => by rw [f1 a (by omega), f0 a ha], by rw [f2 3 (by decide) (by decide) (by decide) (by decide), f3], ?_⟩⟩
  unfold endI
  by_cases c : (tk x p).1 = 3
  · rw [if_pos c, decide_eq_true c]
    exact ⟨rfl, hr.cg (fun a _ _ => f1 a (by omega)) (f2 8 (by decide) (by decide) (by decide) (by decide)) (f2 9 (by decide) (by decide) (by decide) (by decide)), v4⟩
  · rw [if_neg c, decide_eq_false c]
    exact ⟨rfl, v5⟩
end IT
