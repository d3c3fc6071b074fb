/-! the order of groups, pure: ways of any length, groups, which group is next, all get placed -/
def gr_B (R : Nat → Nat → Prop) : Nat → Nat → Nat → Prop
  | 0 => fun x y => R x y
  | m + 1 => fun x y => gr_B R m x y ∨ (gr_B R m x m ∧ gr_B R m m y)
theorem gr_tr {R : Nat → Nat → Prop} : ∀ m x k y, k < m → gr_B R m x k → gr_B R m k y → gr_B R m x y := by
  intro m
  induction m with
  | zero => intro x k y hk; omega
  | succ m ih =>
    intro x k y hk a b
    by_cases z : k = m
    · subst z
      have a' : gr_B R k x k := by
        rcases a with a | a
        · exact a
        · exact a.1
      have b' : gr_B R k k y := by
        rcases b with b | b
        · exact b
        · exact b.2
      exact Or.inr ⟨a', b'⟩
    · have hk' : k < m := by omega
      rcases a with a | ⟨a1, a2⟩
      · rcases b with b | ⟨b1, b2⟩
        · exact Or.inl (ih x k y hk' a b)
        · exact Or.inr ⟨ih x k m hk' a b1, b2⟩
      · rcases b with b | ⟨b1, b2⟩
        · exact Or.inr ⟨a1, ih m k y hk' a2 b⟩
        · exact Or.inr ⟨a1, b2⟩
theorem gr_R {R : Nat → Nat → Prop} {x y : Nat} (h : R x y) : ∀ m, gr_B R m x y := by
  intro m
  induction m with
  | zero => exact h
  | succ m ih => exact Or.inl ih
theorem gr_fst {R : Nat → Nat → Prop} : ∀ m x y, gr_B R m x y → ∃ z, R x z := by
  intro m
  induction m with
  | zero => intro x y h; exact ⟨y, h⟩
  | succ m ih =>
    intro x y h
    rcases h with h | ⟨h, _⟩
    · exact ih x y h
    · exact ih x m h
theorem gr_lst {R : Nat → Nat → Prop} : ∀ m x y, gr_B R m x y → ∃ z, R z y := by
  intro m
  induction m with
  | zero => intro x y h; exact ⟨x, h⟩
  | succ m ih =>
    intro x y h
    rcases h with h | ⟨_, h⟩
    · exact ih x y h
    · exact ih m y h
theorem gr_least {R : Nat → Nat → Prop} {S : Nat → Prop} {x0 : Nat} (hS : ∀ x y, (x = x0 ∨ S x) → R x y → S y) : ∀ m x y, (x = x0 ∨ S x) → gr_B R m x y → S y := by
  intro m
  induction m with
  | zero => intro x y a b; exact hS x y a b
  | succ m ih =>
    intro x y a b
    rcases b with b | ⟨b, c⟩
    · exact ih x y a b
    · exact ih m y (Or.inr (ih x m a b)) c
/-- the group of x -/
def gr_G (R : Nat → Nat → Prop) (x y : Nat) : Prop := y = x ∨ (gr_B R 5 x y ∧ gr_B R 5 y x)
theorem gr_Gs {R : Nat → Nat → Prop} {x y : Nat} (h : gr_G R x y) : gr_G R y x := by
  rcases h with h | ⟨a, b⟩
  · exact Or.inl h.symm
  · exact Or.inr ⟨b, a⟩
theorem gr_Gt {R : Nat → Nat → Prop} {x y z : Nat} (hx : x < 5) (hy : y < 5) (hz : z < 5) (h : gr_G R x y) (h' : gr_G R y z) : gr_G R x z := by
  rcases h with h | ⟨a, b⟩
  · subst h; exact h'
  · rcases h' with h' | ⟨c, d⟩
    · subst h'; exact Or.inr ⟨a, b⟩
    · exact Or.inr ⟨gr_tr 5 x y z hy a c, gr_tr 5 z y x hy d b⟩
/-- x may come next -/
def gr_C (R : Nat → Nat → Prop) (V P : Nat → Prop) (q : Nat) : Prop := V q ∧ ¬ P q ∧ ∀ y, y < 5 → gr_B R 5 q y → gr_G R q y ∨ P y
theorem gr_nxe (C : Nat → Prop) : ∀ n, ∃ q, q ≤ n ∧ (∀ s, s < q → ¬ C s) ∧ (q < n → C q) := by
  intro n
  induction n with
  | zero => exact ⟨0, Nat.le_refl _, fun s hs => absurd hs (Nat.not_lt_zero _), fun h => absurd h (Nat.lt_irrefl _)⟩
  | succ n ih =>
    obtain ⟨q, a, b, c⟩ := ih
    by_cases z : q = n
    · subst z
      by_cases y : C q
      · exact ⟨q, by omega, b, fun _ => y⟩
      · refine ⟨q + 1, Nat.le_refl _, ?_, fun h => absurd h (Nat.lt_irrefl _)⟩
        intro s hs
        by_cases e : s = q
        · subst e; exact y
        · exact b s (by omega)
    · exact ⟨q, by omega, b, fun _ => c (by omega)⟩
noncomputable def gr_nx (C : Nat → Prop) : Nat := Classical.choose (gr_nxe C 5)
theorem gr_nx5 (C : Nat → Prop) : gr_nx C ≤ 5 := (Classical.choose_spec (gr_nxe C 5)).1
theorem gr_nxN (C : Nat → Prop) : ∀ s, s < gr_nx C → ¬ C s := (Classical.choose_spec (gr_nxe C 5)).2.1
theorem gr_nxC (C : Nat → Prop) : gr_nx C < 5 → C (gr_nx C) := (Classical.choose_spec (gr_nxe C 5)).2.2
theorem gr_nxu {C : Nat → Prop} {q : Nat} (h1 : q ≤ 5) (h2 : ∀ s, s < q → ¬ C s) (h3 : q < 5 → C q) : gr_nx C = q := by
  have a := gr_nx5 C
  have b := gr_nxN C
  have c := gr_nxC C
  rcases Nat.lt_trichotomy (gr_nx C) q with h | h | h
  · exact absurd (c (by omega)) (h2 _ h)
  · exact h
  · exact absurd (h3 (by omega)) (b _ h)
noncomputable def gr_fl (S : Nat → Prop) : Nat → List Nat
  | 0 => []
  | q + 1 => @ite (List Nat) (S q) (Classical.propDecidable _) (gr_fl S q ++ [q]) (gr_fl S q)
theorem gr_flP {S : Nat → Prop} {q : Nat} (h : S q) : gr_fl S (q + 1) = gr_fl S q ++ [q] := by rw [gr_fl, if_pos h]
theorem gr_flN {S : Nat → Prop} {q : Nat} (h : ¬ S q) : gr_fl S (q + 1) = gr_fl S q := by rw [gr_fl, if_neg h]
/-- what is placed, and the list, after r rounds -/
noncomputable def gr_st (R : Nat → Nat → Prop) (V : Nat → Prop) : Nat → (Nat → Prop) × List Nat
  | 0 => (fun _ => False, [])
  | r + 1 => (fun y => (gr_st R V r).1 y ∨ (y < 5 ∧ gr_nx (gr_C R V (gr_st R V r).1) < 5 ∧ gr_G R (gr_nx (gr_C R V (gr_st R V r).1)) y), (gr_st R V r).2 ++ gr_fl (fun y => gr_nx (gr_C R V (gr_st R V r).1) < 5 ∧ gr_G R (gr_nx (gr_C R V (gr_st R V r).1)) y) 5)
theorem gr_flm {S : Nat → Prop} : ∀ q x, x ∈ gr_fl S q → x < q ∧ S x := by
  intro q
  induction q with
  | zero => intro x hx; cases hx
  | succ q ih =>
    intro x hx
    by_cases h : S q
    · rw [gr_flP h, List.mem_append] at hx
      rcases hx with hx | hx
      · obtain ⟨a, b⟩ := ih x hx
        exact ⟨by omega, b⟩
      · rw [List.mem_singleton] at hx
        subst hx
        exact ⟨by omega, h⟩
    · rw [gr_flN h] at hx
      obtain ⟨a, b⟩ := ih x hx
      exact ⟨by omega, b⟩
theorem gr_flc {S : Nat → Prop} : ∀ q p, (p < q ∧ S p → (gr_fl S q).count p = 1) ∧ (¬ (p < q ∧ S p) → (gr_fl S q).count p = 0) := by
  intro q
  induction q with
  | zero => intro p; exact ⟨fun h => absurd h.1 (Nat.not_lt_zero _), fun _ => rfl⟩
  | succ q ih =>
    intro p
    obtain ⟨a, b⟩ := ih p
    by_cases h : S q
    · rw [gr_flP h, List.count_append]
      by_cases e : p = q
      · subst e
        have b' := b (fun h => Nat.lt_irrefl _ h.1)
        refine ⟨fun _ => by rw [b', List.count_singleton_self], fun y => absurd ⟨by omega, h⟩ y⟩
      · have e0 : List.count p [q] = 0 := by
          rw [List.count_eq_zero]
          intro hm
          exact e (List.mem_singleton.mp hm)
        rw [e0, Nat.add_zero]
        exact ⟨fun y => a ⟨by omega, y.2⟩, fun y => b (fun z => y ⟨by omega, z.2⟩)⟩
    · rw [gr_flN h]
      refine ⟨fun y => a ⟨?_, y.2⟩, fun y => b (fun z => y ⟨by omega, z.2⟩)⟩
      have : p ≠ q := fun e => h (e ▸ y.2)
      omega
theorem gr_cnt5 (f : Nat → Bool) : ∀ L : List Nat, (∀ x, x ∈ L → x < 5) → L.countP f = (if f 0 then L.count 0 else 0) + (if f 1 then L.count 1 else 0) + (if f 2 then L.count 2 else 0) + (if f 3 then L.count 3 else 0) + (if f 4 then L.count 4 else 0) := by
  intro L
  induction L with
  | nil => intro _; simp
  | cons a L ih =>
    intro h
    have i := ih (fun x hx => h x (List.mem_cons_of_mem _ hx))
    have ha := h a (List.mem_cons_self)
    rw [List.countP_cons, i]
    have : a = 0 ∨ a = 1 ∨ a = 2 ∨ a = 3 ∨ a = 4 := by omega
    generalize hc : (if f 0 = true then L.count 0 else 0) + (if f 1 = true then L.count 1 else 0) + (if f 2 = true then L.count 2 else 0) + (if f 3 = true then L.count 3 else 0) + (if f 4 = true then L.count 4 else 0) = c at *
    rcases this with e | e | e | e | e
    · subst e
      rw [List.count_cons_self, List.count_cons_of_ne (by decide), List.count_cons_of_ne (by decide), List.count_cons_of_ne (by decide), List.count_cons_of_ne (by decide)]
      cases z : f 0 <;> simp only [z] at hc ⊢ <;> simp at hc ⊢ <;> omega
    · subst e
      rw [List.count_cons_self, List.count_cons_of_ne (by decide), List.count_cons_of_ne (by decide), List.count_cons_of_ne (by decide), List.count_cons_of_ne (by decide)]
      cases z : f 1 <;> simp only [z] at hc ⊢ <;> simp at hc ⊢ <;> omega
    · subst e
      rw [List.count_cons_self, List.count_cons_of_ne (by decide), List.count_cons_of_ne (by decide), List.count_cons_of_ne (by decide), List.count_cons_of_ne (by decide)]
      cases z : f 2 <;> simp only [z] at hc ⊢ <;> simp at hc ⊢ <;> omega
    · subst e
      rw [List.count_cons_self, List.count_cons_of_ne (by decide), List.count_cons_of_ne (by decide), List.count_cons_of_ne (by decide), List.count_cons_of_ne (by decide)]
      cases z : f 3 <;> simp only [z] at hc ⊢ <;> simp at hc ⊢ <;> omega
    · subst e
      rw [List.count_cons_self, List.count_cons_of_ne (by decide), List.count_cons_of_ne (by decide), List.count_cons_of_ne (by decide), List.count_cons_of_ne (by decide)]
      cases z : f 4 <;> simp only [z] at hc ⊢ <;> simp at hc ⊢ <;> omega
theorem gr_len5 {L : List Nat} (h : ∀ x, x ∈ L → x < 5) : L.length = L.count 0 + L.count 1 + L.count 2 + L.count 3 + L.count 4 := by
  have e := gr_cnt5 (fun _ => true) L h
  simpa using e
/-- what holds after r rounds -/
theorem gr_inv {R : Nat → Nat → Prop} {V : Nat → Prop} (hV : ∀ x y, R x y → V x ∧ V y) : ∀ r,
    (∀ x, x ∈ (gr_st R V r).2 → x < 5) ∧ (∀ p, p < 5 → ((gr_st R V r).1 p → (gr_st R V r).2.count p = 1 ∧ V p) ∧ (¬ (gr_st R V r).1 p → (gr_st R V r).2.count p = 0)) ∧
    (∀ x y, x < 5 → y < 5 → (gr_st R V r).1 x → gr_G R x y → (gr_st R V r).1 y) := by
  intro r
  induction r with
  | zero => exact ⟨fun x hx => absurd hx List.not_mem_nil, fun p _ => ⟨fun h => False.elim h, fun _ => rfl⟩, fun x y _ _ h => False.elim h⟩
  | succ r ih =>
    obtain ⟨i1, i2, i3⟩ := ih
    have hq5 := gr_nx5 (gr_C R V (gr_st R V r).1)
    have hqC := gr_nxC (gr_C R V (gr_st R V r).1)
    rw [gr_st]
    generalize hP : (gr_st R V r).1 = P at *
    generalize hL : (gr_st R V r).2 = L at *
    generalize hq : gr_nx (gr_C R V P) = q at *
    have dj : ∀ p, p < 5 → q < 5 → gr_G R q p → ¬ P p := by
      intro p hp hq' hg hP'
      exact (hqC hq').2.1 (i3 p q hp hq' hP' (gr_Gs hg))
    refine ⟨?_, ?_, ?_⟩
    · intro x hx
      rw [List.mem_append] at hx
      rcases hx with hx | hx
      · exact i1 x hx
      · exact (gr_flm 5 x hx).1
    · intro p hp
      obtain ⟨j1, j2⟩ := i2 p hp
      obtain ⟨f1, f2⟩ := gr_flc (S := fun y => q < 5 ∧ gr_G R q y) 5 p
      dsimp only
      rw [List.count_append]
      constructor
      · rintro (h | ⟨_, h1, h2⟩)
        · have := f2 (fun z => dj p hp z.2.1 z.2.2 h)
          rw [this, (j1 h).1]
          exact ⟨rfl, (j1 h).2⟩
        · have a := j2 (dj p hp h1 h2)
          have b := f1 ⟨hp, h1, h2⟩
          rw [a, b]
          refine ⟨rfl, ?_⟩
          rcases h2 with e | ⟨h2, _⟩
          · rw [e]; exact (hqC h1).1
          · obtain ⟨z, hz⟩ := gr_lst 5 q p h2
            exact (hV z p hz).2
      · intro h
        have a := j2 (fun y => h (Or.inl y))
        have b := f2 (fun z => h (Or.inr ⟨hp, z.2⟩))
        rw [a, b]
    · intro x y hx hy h hg
      rcases h with h | ⟨_, h1, h2⟩
      · exact Or.inl (i3 x y hx hy h hg)
      · exact Or.inr ⟨hy, h1, gr_Gt h1 hx hy h2 hg⟩
noncomputable def gr_k (P : Nat → Prop) : Nat → Nat
  | 0 => 0
  | i + 1 => @ite Nat (P i) (Classical.propDecidable _) (gr_k P i + 1) (gr_k P i)
theorem gr_kP {P : Nat → Prop} {i : Nat} (h : P i) : gr_k P (i + 1) = gr_k P i + 1 := by rw [gr_k, if_pos h]
theorem gr_kN {P : Nat → Prop} {i : Nat} (h : ¬ P i) : gr_k P (i + 1) = gr_k P i := by rw [gr_k, if_neg h]
theorem gr_kle {A A' : Nat → Prop} : ∀ n, (∀ y, y < n → A y → A' y) → gr_k A n ≤ gr_k A' n := by
  intro n
  induction n with
  | zero => intro _; exact Nat.le_refl _
  | succ n ih =>
    intro h
    have i := ih (fun y hy => h y (by omega))
    by_cases a : A n
    · rw [gr_kP a, gr_kP (h n (by omega) a)]; omega
    · rw [gr_kN a]
      by_cases b : A' n
      · rw [gr_kP b]; omega
      · rw [gr_kN b]; exact i
theorem gr_klt {A A' : Nat → Prop} {z : Nat} (h1 : A' z) (h2 : ¬ A z) : ∀ n, z < n → (∀ y, y < n → A y → A' y) → gr_k A n < gr_k A' n := by
  intro n
  induction n with
  | zero => intro h; omega
  | succ n ih =>
    intro hz h
    by_cases e : z = n
    · subst e
      have i := gr_kle z (fun y hy => h y (by omega))
      rw [gr_kN h2, gr_kP h1]; omega
    · have i := ih (by omega) (fun y hy => h y (by omega))
      by_cases a : A n
      · rw [gr_kP a, gr_kP (h n (by omega) a)]; omega
      · rw [gr_kN a]
        by_cases b : A' n
        · rw [gr_kP b]; omega
        · rw [gr_kN b]; exact i
/-- something can come next while something is left -/
theorem gr_pro {R : Nat → Nat → Prop} {V P : Nat → Prop} (hV : ∀ x y, R x y → V x ∧ V y) : ∀ n x, x < 5 → V x → ¬ P x → gr_k (fun y => (y = x ∨ gr_B R 5 x y) ∧ ¬ P y) 5 < n → ∃ q, q < 5 ∧ gr_C R V P q := by
  intro n
  induction n with
  | zero => intro x _ _ _ h; omega
  | succ n ih =>
    intro x hx hVx hPx hm
    by_cases c : gr_C R V P x
    · exact ⟨x, hx, c⟩
    · have : ∃ y, y < 5 ∧ gr_B R 5 x y ∧ ¬ gr_G R x y ∧ ¬ P y := by
        apply Classical.byContradiction
        intro hn
        apply c
        refine ⟨hVx, hPx, fun y hy hb => ?_⟩
        apply Classical.byContradiction
        intro hg
        exact hn ⟨y, hy, hb, fun g => hg (Or.inl g), fun p => hg (Or.inr p)⟩
      obtain ⟨y, hy, hb, hg, hp⟩ := this
      obtain ⟨z, hz⟩ := gr_lst 5 x y hb
      refine ih y hy (hV z y hz).2 hp ?_
      have : gr_k (fun z => (z = y ∨ gr_B R 5 y z) ∧ ¬ P z) 5 < gr_k (fun z => (z = x ∨ gr_B R 5 x z) ∧ ¬ P z) 5 := by
        refine gr_klt (z := x) ⟨Or.inl rfl, hPx⟩ ?_ 5 hx ?_
        · rintro ⟨h | h, _⟩
          · exact hg (Or.inl h.symm)
          · exact hg (Or.inr ⟨hb, h⟩)
        · rintro w hw ⟨h | h, h'⟩
          · subst h; exact ⟨Or.inr hb, h'⟩
          · exact ⟨Or.inr (gr_tr 5 x y w hy hb h), h'⟩
      omega
theorem gr_run {R : Nat → Nat → Prop} {V : Nat → Prop} (hV : ∀ x y, R x y → V x ∧ V y) : ∀ r, (∀ p, p < 5 → V p → (gr_st R V r).1 p) ∨ r ≤ (gr_st R V r).2.length := by
  intro r
  induction r with
  | zero => exact Or.inr (Nat.zero_le _)
  | succ r ih =>
    by_cases all : ∀ p, p < 5 → V p → (gr_st R V r).1 p
    · exact Or.inl (fun p hp hv => Or.inl (all p hp hv))
    · rcases ih with ih | ih
      · exact absurd ih all
      · refine Or.inr ?_
        have : ∃ x, x < 5 ∧ V x ∧ ¬ (gr_st R V r).1 x := by
          apply Classical.byContradiction
          intro hn
          apply all
          intro p hp hv
          apply Classical.byContradiction
          intro h
          exact hn ⟨p, hp, hv, h⟩
        obtain ⟨x, hx, hv, hp⟩ := this
        obtain ⟨q, hq, hc⟩ := gr_pro hV _ x hx hv hp (Nat.lt_succ_self _)
        have hnx : gr_nx (gr_C R V (gr_st R V r).1) < 5 := by
          apply Classical.byContradiction
          intro h
          exact gr_nxN _ q (by omega) hc
        have hm := (gr_flc (S := fun y => gr_nx (gr_C R V (gr_st R V r).1) < 5 ∧ gr_G R (gr_nx (gr_C R V (gr_st R V r).1)) y) 5 (gr_nx (gr_C R V (gr_st R V r).1))).1 ⟨hnx, hnx, Or.inl rfl⟩
        have hl := List.count_le_length (a := gr_nx (gr_C R V (gr_st R V r).1)) (l := gr_fl (fun y => gr_nx (gr_C R V (gr_st R V r).1) < 5 ∧ gr_G R (gr_nx (gr_C R V (gr_st R V r).1)) y) 5)
        rw [gr_st]
        show r + 1 ≤ ((gr_st R V r).2 ++ gr_fl (fun y => gr_nx (gr_C R V (gr_st R V r).1) < 5 ∧ gr_G R (gr_nx (gr_C R V (gr_st R V r).1)) y) 5).length
        rw [List.length_append]
        omega
theorem gr_len {R : Nat → Nat → Prop} {V : Nat → Prop} (hV : ∀ x y, R x y → V x ∧ V y) (r : Nat) : (gr_st R V r).2.length ≤ 5 := by
  obtain ⟨i1, i2, _⟩ := gr_inv hV r
  have c : ∀ p, p < 5 → (gr_st R V r).2.count p ≤ 1 := by
    intro p hp
    by_cases h : (gr_st R V r).1 p
    · rw [((i2 p hp).1 h).1]; omega
    · rw [(i2 p hp).2 h]; omega
  rw [gr_len5 i1]
  have := c 0 (by omega)
  have := c 1 (by omega)
  have := c 2 (by omega)
  have := c 3 (by omega)
  have := c 4 (by omega)
  omega
theorem gr_end {R : Nat → Nat → Prop} {V : Nat → Prop} (hV : ∀ x y, R x y → V x ∧ V y) {p : Nat} (hp : p < 5) : (V p → (gr_st R V 5).2.count p = 1) ∧ (¬ V p → (gr_st R V 5).2.count p = 0) := by
  obtain ⟨i1, i2, _⟩ := gr_inv hV 5
  have c : ∀ p, p < 5 → (gr_st R V 5).2.count p ≤ 1 := by
    intro p hp
    by_cases h : (gr_st R V 5).1 p
    · rw [((i2 p hp).1 h).1]; omega
    · rw [(i2 p hp).2 h]; omega
  constructor
  · intro hv
    rcases gr_run hV 5 with h | h
    · exact ((i2 p hp).1 (h p hp hv)).1
    · rw [gr_len5 i1] at h
      have h0 := c 0 (by omega)
      have h1 := c 1 (by omega)
      have h2 := c 2 (by omega)
      have h3 := c 3 (by omega)
      have h4 := c 4 (by omega)
      have : p = 0 ∨ p = 1 ∨ p = 2 ∨ p = 3 ∨ p = 4 := by omega
      rcases this with e | e | e | e | e <;> subst e <;> omega
  · intro hv
    refine (i2 p hp).2 (fun h => hv ((i2 p hp).1 h).2)
