/-! all the items of a text -/
def pNx (q : Sum Nat (rS × Nat)) (k : rS × Nat → Sum Nat (rS × Nat)) : Sum Nat (rS × Nat) := match q with
  | .inl s => .inl s
  | .inr o => k o
/-- at the end: what is read, and how many items -/
def pAll (x : List Int32) : Nat → rS → Nat → Nat → Sum Nat (rS × Nat)
  | 0, _, _, _ => .inl 0
  | n + 1, r, p, i => if (tk x p).1 = 0 then .inr (r, i) else pNx (pI x r p) (fun o => pAll x n o.1 o.2 (i + 1))
def gAll (x : List Int32) (q : Sum Nat (rS × Nat)) : Prop := match q with
  | .inl s => s ≤ x.length
  | .inr o => okR o.1 ∧ o.2 ≤ x.length
section AL
variable {x : List Int32}
theorem g_all : ∀ (m p i : Nat) (r : rS), p ≤ x.length → i ≤ p → okR r → gAll x (pAll x m r p i) := by
  intro m
  induction m with
  | zero => intro p i r hp hi ho; exact Nat.zero_le _
  | succ m ih =>
    intro p i r hp hi ho
    rw [pAll]
    by_cases c : (tk x p).1 = 0
    · rw [if_pos c]
      exact ⟨ho, by show i ≤ x.length; omega⟩
    · rw [if_neg c]
      have h := g_pI hp ho
      cases hq : pI x r p with
      | inl s => rw [hq] at h; exact h
      | inr o =>
        rw [hq] at h
        obtain ⟨h1, h2, h3⟩ := h
        exact ih o.2 (i + 1) o.1 h3 (by omega) h1
theorem kC_0 {p : Nat} (hx : ∀ c ∈ x, 0 ≤ c.toInt ∧ c.toInt ≤ 255) (hp : p ≤ x.length) : kC x (tk x p) = -1 ↔ (tk x p).1 = 0 := by
  obtain ⟨-, h2, h3, -, h5, -⟩ := tk_le x p hp
  unfold kC
  by_cases c0 : (tk x p).1 = 0
  · rw [if_pos c0]
    exact ⟨fun _ => c0, fun _ => rfl⟩
  rw [if_neg c0]
  by_cases c2 : (tk x p).1 = 2
  · rw [if_pos c2]
    exact ⟨fun h => absurd h (by decide), fun h => by omega⟩
  rw [if_neg c2]
  by_cases c4 : (tk x p).1 = 4
  · rw [if_pos c4]
    exact ⟨fun h => absurd h (by decide), fun h => by omega⟩
  rw [if_neg c4]
  have := chA_pos hx (p := (tk x p).2.1) (by have := h5 c0; omega)
  refine ⟨fun h => ?_, fun h => by omega⟩
  rw [h] at this
  exact absurd this (by decide)
/-- the class behind all items -/
def cAll (V0 V2 : xV) (b : Int32) (q : Sum Nat (rS × Nat)) : Prop := (∀ a, a < 10 ∨ 18 < a → V2 a = V0 a) ∧ match q with
  | .inl s => b = -1 ∧ V2 10 5 = nI s
  | .inr o => b = nI o.2 ∧ cRs V2 o.1
theorem c_loop (hl : x.length ≤ 100) (hx : ∀ c ∈ x, 0 ≤ c.toInt ∧ c.toInt ≤ 255) {V0 : xV} {l1 : Int32} {k : Int32 → xV → Option (Int32 × xV)} : ∀ (m p i n : Nat) (V : xV) (r : rS), x.length < p + m → m ≤ n → p ≤ x.length → i ≤ p → cTx V x → V 10 3 = nI x.length → V 10 4 = nI p → cRs V r → okR r → (∀ a, a < 10 ∨ 18 < a → V a = V0 a) → ∃ b V2, f_X1_readAll_L44 l1 n k (nI i) V = some (b, V2) ∧ cAll V0 V2 b (pAll x m r p i) := by
  intro m
  induction m with
  | zero => intro p i n V r h1 _ h2; omega
  | succ m ih =>
    intro p i n V r hm hn hp hi ht h3 h4 hr ho f0
    obtain ⟨n, rfl⟩ : ∃ q, n = q + 1 := ⟨n - 1, by omega⟩
    obtain ⟨V1, e, f1, f2, v4, v5, v6, v7⟩ := c_adv hl hp ht h3 h4
    have hr1 : cRs V1 r := hr.cg (fun a _ _ => f1 a (by omega)) (f2 8 (by decide) (by decide) (by decide) (by decide)) (f2 9 (by decide) (by decide) (by decide) (by decide))
    have ht1 : cTx V1 x := ht.cg (by rw [f1 0 (by decide)]) (f1 1 (by decide))
    have w3 : V1 10 3 = nI x.length := by rw [f2 3 (by decide) (by decide) (by decide) (by decide)]; exact h3
    rw [f_X1_readAll_L44, h3, if_neg (by rw [i_lt, i_n (by omega), i_n (by omega)]; omega), e, x_b1_some, v6, pAll]
    by_cases c : (tk x p).1 = 0
    · rw [if_pos ((kC_0 hx hp).mpr c), if_pos c]
      exact ⟨_, V1, rfl, fun a ha => by rw [f1 a (by omega), f0 a ha], rfl, hr1⟩
    · rw [if_neg (fun h => c ((kC_0 hx hp).mp h)), if_neg c]
      obtain ⟨b, V2, e2, o1, o2, o3⟩ := c_item hl hx hp ht1 w3 v4 v5 v6 hr1 ho
      have g := g_pI (x := x) hp ho
      rw [e2, x_b2_some]
      cases hq : pI x r p with
      | inl s =>
        rw [hq] at o3
        obtain ⟨rfl, o5⟩ := o3
        rw [if_pos (by decide)]
        exact ⟨_, V2, rfl, fun a ha => by rw [o1 a ha, f1 a (by omega), f0 a ha], rfl, o5⟩
      | inr o =>
        rw [hq] at o3 g
        obtain ⟨rfl, o5, o6⟩ := o3
        obtain ⟨g1, g2, g3⟩ := g
        rw [if_neg (by decide), nI_1]
        exact ih o.2 (i + 1) n V2 o.1 (by omega) (by omega) g3 (by omega) (ht1.cg (by rw [o1 0 (by decide)]) (o1 1 (by decide))) (by rw [o2]; exact w3) o6 o5 g1 (fun a ha => by rw [o1 a ha, f1 a (by omega), f0 a ha])
end AL
