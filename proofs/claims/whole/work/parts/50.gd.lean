/-! going through plans, some of them let be -/
def gx (T : Nat) (pl : List Nat → Nat → Bool) : Nat → List Nat → List (List Nat)
  | 0, l => [l]
  | k + 1, l => (List.range T).flatMap (fun t => if pl l t then gx T pl k (t :: l) else [])
theorem p_ext_gx (d : sT) (w : sW) (br : Option Nat) (more : Nat) : ∀ k l, p_ext d w br more k l = gx d.1 (p_pl d w br more) k l := by
  intro k
  induction k with
  | zero => intro l; rfl
  | succ k ih =>
    intro l
    simp only [p_ext, gx]
    congr 1
    funext t
    rw [ih]
def gd {A : Type} (T : Nat) (ft : A → List Nat → Nat → Bool) (up : A → List Nat → A) : Nat → List Nat → A → A
  | 0, l, a => up a l
  | k + 1, l, a => (List.range T).foldl (fun a t => if ft a l t then gd T ft up k (t :: l) a else a) a
theorem foldl_flat {A B C : Type} (f : A → B → A) (g : C → List B) : ∀ (l : List C) (a : A), (l.flatMap g).foldl f a = l.foldl (fun a x => (g x).foldl f a) a := by
  intro l
  induction l with
  | nil => intro a; rfl
  | cons x l ih =>
    intro a
    rw [List.flatMap_cons, List.foldl_append, ih]
    rfl
theorem foldl_noop {A B : Type} (f : A → B → A) (a : A) : ∀ (l : List B), (∀ x ∈ l, f a x = a) → l.foldl f a = a := by
  intro l
  induction l with
  | nil => intro _; rfl
  | cons x l ih =>
    intro h
    rw [List.foldl_cons, h x List.mem_cons_self]
    exact ih (fun y hy => h y (List.mem_cons_of_mem _ hy))
theorem foldl_inv {A B : Type} (P : A → Prop) (f : A → B → A) : ∀ (l : List B) (a : A), P a → (∀ a x, x ∈ l → P a → P (f a x)) → P (l.foldl f a) := by
  intro l
  induction l with
  | nil => intro a h _; exact h
  | cons x l ih =>
    intro a h hf
    exact ih (f a x) (hf a x List.mem_cons_self h) (fun b y hy hb => hf b y (List.mem_cons_of_mem _ hy) hb)
theorem foldl_agree {A B : Type} (P : A → Prop) (f g : A → B → A) : ∀ (l : List B) (a : A), P a → (∀ a x, x ∈ l → P a → f a x = g a x ∧ P (g a x)) → l.foldl f a = l.foldl g a ∧ P (l.foldl g a) := by
  intro l
  induction l with
  | nil => intro a h _; exact ⟨rfl, h⟩
  | cons x l ih =>
    intro a h hf
    obtain ⟨e, p⟩ := hf a x List.mem_cons_self h
    rw [List.foldl_cons, List.foldl_cons, e]
    exact ih (g a x) p (fun b y hy hb => hf b y (List.mem_cons_of_mem _ hy) hb)
theorem gx_mem {T : Nat} {pl : List Nat → Nat → Bool} : ∀ (k : Nat) (l x : List Nat), x ∈ gx T pl k l → x.length = l.length + k ∧ ∃ y, x = y ++ l := by
  intro k
  induction k with
  | zero =>
    intro l x h
    rw [gx, List.mem_singleton] at h
    subst h
    exact ⟨rfl, [], rfl⟩
  | succ k ih =>
    intro l x h
    rw [gx, List.mem_flatMap] at h
    obtain ⟨t, -, h⟩ := h
    split at h
    · obtain ⟨h1, y, h2⟩ := ih _ _ h
      refine ⟨by rw [h1, List.length_cons]; omega, y ++ [t], by rw [h2]; simp⟩
    · cases h
/-- where what is let be would have changed nothing, nothing is lost -/
theorem gd_eq {A : Type} {T N : Nat} {ft : A → List Nat → Nat → Bool} {up : A → List Nat → A} {pl : List Nat → Nat → Bool} (Ok : List Nat → Prop) (Inv : A → Prop) (hok : ∀ l t, Ok l → t < T → pl l t = true → Ok (t :: l)) (hup : ∀ a l, Inv a → Ok l → Inv (up a l)) (h1 : ∀ a l t, Inv a → Ok l → l.length < N → t < T → ft a l t = true → pl l t = true)
    (h2 : ∀ a k l t x, Inv a → Ok l → t < T → l.length + 1 + k = N → pl l t = true → ft a l t = false → x ∈ gx T pl k (t :: l) → up a x = a) : ∀ (k : Nat) (l : List Nat) (a : A), Inv a → Ok l → l.length + k = N → gd T ft up k l a = (gx T pl k l).foldl up a ∧ Inv ((gx T pl k l).foldl up a) := by
  intro k
  induction k with
  | zero =>
    intro l a ha hl _
    exact ⟨rfl, hup a l ha hl⟩
  | succ k ih =>
    intro l a ha hl hn
    rw [gd, gx, foldl_flat]
    refine foldl_agree Inv _ _ _ a ha (fun b t ht hb => ?_)
    have htT : t < T := List.mem_range.mp ht
    cases hf : ft b l t with
    | true =>
      have hp := h1 b l t hb hl (by omega) htT hf
      simp only [if_true, hp]
      exact ih (t :: l) b hb (hok l t hl htT hp) (by rw [List.length_cons]; omega)
    | false =>
      cases hp : pl l t with
      | true =>
        simp only [if_true]
        have e := foldl_noop up b (gx T pl k (t :: l)) (fun x hx => h2 b k l t x hb hl htT (by omega) hp hf hx)
        rw [e]
        exact ⟨by simp, hb⟩
      | false => exact ⟨by simp, by simpa using hb⟩
