/-! pure: masks, ranges, lists of versions, the numbering of choices -/
theorem pd_lin (a p v : Nat) : nI a * nI p + nI v = nI (a * p + v) := by rw [pk_mul, nI_add]
theorem pd_l10 (p v : Nat) : (10 : Int32) * nI p + nI v = nI (10 * p + v) := pd_lin 10 p v
theorem pd_l3 (p v : Nat) : (3 : Int32) * nI p + nI v = nI (3 * p + v) := pd_lin 3 p v
theorem pd_l5 (p v : Nat) : (5 : Int32) * nI p + nI v = nI (5 * p + v) := pd_lin 5 p v
theorem pd_or (a b : Nat) : nI a ||| nI b = nI (a ||| b) := by
  apply Int32.toBitVec_inj.1
  show BitVec.ofNat 32 a ||| BitVec.ofNat 32 b = BitVec.ofNat 32 (a ||| b)
  apply BitVec.eq_of_getLsbD_eq
  intro i hi
  simp [hi]
theorem pd_shl1 {i : Nat} (h : i < 31) : (1 : Int32) <<< (nI i &&& 31) = nI (2 ^ i) := by
  have h2 : 2 ^ i < 2 ^ 31 := Nat.pow_lt_pow_right (by decide) h
  have e := pk_shlN (n := 1) (nI i &&& 31) i (s_l i (by omega)) (by omega)
  rw [Nat.one_mul] at e
  exact e
theorem pd_b1 : ∀ i, i < 32 → bt 1 i = decide (i = 0) := by decide +kernel
theorem pd_bit0 (x : Int32) {j : Nat} (hj : j < 31) : (((x >>> (nI j &&& 31)) &&& 1) = 0) ↔ bt x j = false := by
  constructor
  · intro h
    have e : bt ((x >>> (nI j &&& 31)) &&& 1) 0 = false := by rw [h]; exact b_0 0
    rw [b_and, b_sshr j (by omega) x (by omega), pd_b1 0 (by omega), Nat.add_zero, if_pos (by omega)] at e
    simpa using e
  · intro h
    apply b_ext
    intro i hi
    rw [b_and, b_sshr j (by omega) x hi, pd_b1 i hi, b_0]
    by_cases z : i = 0
    · subst z
      rw [Nat.add_zero, if_pos (by omega), h]
      rfl
    · rw [decide_eq_false z, Bool.and_false]
theorem pd_bit1 (x : Int32) {j : Nat} (hj : j < 31) : (((x >>> (nI j &&& 31)) &&& 1) = 1) ↔ bt x j = true := by
  constructor
  · intro h
    have e : bt ((x >>> (nI j &&& 31)) &&& 1) 0 = true := by rw [h]; decide
    rw [b_and, b_sshr j (by omega) x (by omega), pd_b1 0 (by omega), Nat.add_zero, if_pos (by omega)] at e
    simpa using e
  · intro h
    apply b_ext
    intro i hi
    rw [b_and, b_sshr j (by omega) x hi, pd_b1 i hi]
    by_cases z : i = 0
    · subst z
      rw [Nat.add_zero, if_pos (by omega), h]
      rfl
    · rw [decide_eq_false z, Bool.and_false]
theorem pd_bs (j : Nat) (hj : j < 32) {i : Nat} (hi : i < 32) : bt ((1 : Int32) <<< (nI j &&& 31)) i = decide (i = j) := by
  rw [b_shl j hj 1 hi, pd_b1 (i - j) (by omega)]
  by_cases z : i = j
  · subst z; simp
  · rw [decide_eq_false z]
    by_cases y : j ≤ i
    · rw [decide_eq_true y, decide_eq_false (by omega)]; rfl
    · rw [decide_eq_false y]; rfl
theorem pd_bn (x : Int32) {i : Nat} (hi : i < 32) : bt (x ^^^ (-1)) i = !bt x i := by
  rw [b_xor, b_m1 i hi, Bool.xor_true]
theorem pd_b0i {x : Int32} : x = 0 ↔ ∀ i, i < 32 → bt x i = false := by
  constructor
  · intro h i _; rw [h]; exact b_0 i
  · intro h
    apply b_ext
    intro i hi
    rw [h i hi, b_0]
/-- a version against a range, as both sides compute it -/
def pd_r (v r : Int32) : Int32 := if v < r / 10 then 0 else if (r - r / 10 * 10) < v then 0 else 1
theorem pd_r01 (v r : Int32) : pd_r v r = 0 ∨ pd_r v r = 1 := by
  unfold pd_r
  split
  · exact Or.inl rfl
  · split
    · exact Or.inl rfl
    · exact Or.inr rfl
/-- a copy of the first q cells -/
def pd_cp (a b : Nat → Int32) (q : Nat) : Nat → Int32 := fun j => if j < q then b j else a j
theorem pd_cp0 (a b : Nat → Int32) : pd_cp a b 0 = a := by
  funext j; unfold pd_cp; rw [if_neg (by omega)]
theorem pd_cps (a b : Nat → Int32) (q : Nat) : upd (pd_cp a b q) q (b q) = pd_cp a b (q + 1) := by
  funext j
  unfold upd pd_cp
  by_cases h : j = q
  · subst h; rw [if_pos rfl, if_pos (by omega)]
  · rw [if_neg h]
    by_cases h2 : j < q
    · rw [if_pos h2, if_pos (by omega)]
    · rw [if_neg h2, if_neg (by omega)]
theorem pd_cpc {a b b' : Nat → Int32} {q : Nat} (h : ∀ p, p < q → b p = b' p) : pd_cp a b q = pd_cp a b' q := by
  funext j
  unfold pd_cp
  by_cases h2 : j < q
  · rw [if_pos h2, if_pos h2, h j h2]
  · rw [if_neg h2, if_neg h2]
theorem pd_cpe {a b : Nat → Int32} {q p : Nat} (h : p < q) : pd_cp a b q p = b p := if_pos h
/-- cells lo .. hi-1 take what stands k further on -/
def pd_sv (a : Nat → Int32) (lo hi k : Nat) : Nat → Int32 := fun j => if lo ≤ j ∧ j < hi then a (j + k) else a j
theorem pd_sv0 (a : Nat → Int32) (lo k : Nat) : pd_sv a lo lo k = a := by
  funext j; unfold pd_sv; rw [if_neg (by omega)]
theorem pd_svs (a : Nat → Int32) {lo hi k : Nat} (h : lo ≤ hi) (hk : 0 < k) : upd (pd_sv a lo hi k) hi (pd_sv a lo hi k (hi + k)) = pd_sv a lo (hi + 1) k := by
  funext j
  unfold upd pd_sv
  by_cases h1 : j = hi
  · subst h1; rw [if_pos rfl, if_neg (by omega), if_pos (by omega)]
  · rw [if_neg h1]
    by_cases h2 : lo ≤ j ∧ j < hi
    · rw [if_pos h2, if_pos (by omega)]
    · rw [if_neg h2, if_neg (by omega)]
/-- cells b .. b+q-1 take a row -/
def pd_kp (a : Nat → Int32) (b : Nat) (r : Nat → Int32) (q : Nat) : Nat → Int32 := fun j => if b ≤ j ∧ j < b + q then r (j - b) else a j
theorem pd_kp0 (a : Nat → Int32) (b : Nat) (r : Nat → Int32) : pd_kp a b r 0 = a := by
  funext j; unfold pd_kp; rw [if_neg (by omega)]
theorem pd_kps (a : Nat → Int32) (b : Nat) (r : Nat → Int32) (q : Nat) : upd (pd_kp a b r q) (b + q) (r q) = pd_kp a b r (q + 1) := by
  funext j
  unfold upd pd_kp
  by_cases h1 : j = b + q
  · subst h1; rw [if_pos rfl, if_pos (by omega), Nat.add_sub_cancel_left]
  · rw [if_neg h1]
    by_cases h2 : b ≤ j ∧ j < b + q
    · rw [if_pos h2, if_pos (by omega)]
    · rw [if_neg h2, if_neg (by omega)]
/-- the versions s .. 1 that are offered, from the greatest -/
def pd_ds (h : Nat → Bool) : Nat → List Nat
  | 0 => []
  | s + 1 => if h (s + 1) then (s + 1) :: pd_ds h s else pd_ds h s
theorem pd_dsP {h : Nat → Bool} {s : Nat} (z : h (s + 1) = true) : pd_ds h (s + 1) = (s + 1) :: pd_ds h s := by
  rw [pd_ds, if_pos z]
theorem pd_dsN {h : Nat → Bool} {s : Nat} (z : h (s + 1) = false) : pd_ds h (s + 1) = pd_ds h s := by
  rw [pd_ds, z]; rfl
theorem pd_ds_mem {h : Nat → Bool} : ∀ {s v : Nat}, v ∈ pd_ds h s → 1 ≤ v ∧ v ≤ s ∧ h v = true := by
  intro s
  induction s with
  | zero => intro v hv; cases hv
  | succ s ih =>
    intro v hv
    cases z : h (s + 1)
    · rw [pd_dsN z] at hv
      obtain ⟨a, b, c⟩ := ih hv
      exact ⟨a, by omega, c⟩
    · rw [pd_dsP z] at hv
      cases hv with
      | head => exact ⟨by omega, by omega, z⟩
      | tail _ hv =>
        obtain ⟨a, b, c⟩ := ih hv
        exact ⟨a, by omega, c⟩
theorem pd_ds_drop {h : Nat → Bool} : ∀ {s d : Nat} (hd : d < (pd_ds h s).length), (pd_ds h s).drop (d + 1) = pd_ds h ((pd_ds h s)[d] - 1) := by
  intro s
  induction s with
  | zero => intro d hd; exact absurd hd (Nat.not_lt_zero _)
  | succ s ih =>
    intro d hd
    cases z : h (s + 1)
    · have e := pd_dsN z
      have hd' : d < (pd_ds h s).length := by rw [← e]; exact hd
      have e2 := ih hd'
      have e3 : (pd_ds h (s + 1))[d] = (pd_ds h s)[d] := by
        congr 1
      rw [e3, e]
      exact e2
    · have e := pd_dsP z
      cases d with
      | zero =>
        have e3 : (pd_ds h (s + 1))[0] = s + 1 := by simp only [e, List.getElem_cons_zero]
        rw [e3, e]
        rfl
      | succ d =>
        have hd' : d < (pd_ds h s).length := by
          rw [e] at hd
          simpa using hd
        have e3 : (pd_ds h (s + 1))[d + 1] = (pd_ds h s)[d] := by simp only [e, List.getElem_cons_succ]
        rw [e3, e, List.drop_succ_cons]
        exact ih hd'
/-- the next offered one from s downwards, or 0 -/
def pd_nv (h : Nat → Bool) : Nat → Nat
  | 0 => 0
  | s + 1 => if h (s + 1) then s + 1 else pd_nv h s
theorem pd_nv_ds (h : Nat → Bool) : ∀ s, pd_nv h s = (pd_ds h s).getD 0 0 := by
  intro s
  induction s with
  | zero => rfl
  | succ s ih =>
    cases z : h (s + 1)
    · rw [pd_dsN z, ← ih, pd_nv, z]; rfl
    · rw [pd_dsP z, pd_nv, z]; rfl
def pd_h (aO : Nat → Int32) (p v : Nat) : Bool := !decide (aO (10 * p + v) = 0)
def pd_L (aO : Nat → Int32) (p : Nat) : List Nat := pd_ds (pd_h aO p) 9
def pd_M (aO : Nat → Int32) (p : Nat) : Nat := (pd_L aO p).length + 1
def pd_o (aO : Nat → Int32) (p d : Nat) : Nat := (0 :: pd_L aO p).getD d 0
def pd_rk (aO : Nat → Int32) (n : Nat) : Nat → Nat
  | 0 => n
  | k + 1 => pd_rk aO n k / pd_M aO (4 - k)
def pd_c (aO : Nat → Int32) (n p : Nat) : Nat := pd_o aO p (pd_rk aO n (4 - p) % pd_M aO p)
def pd_ci (aO : Nat → Int32) (n : Nat) : Nat → Int32 := fun p => nI (pd_c aO n p)
def pd_T (aO : Nat → Int32) : Nat := pd_M aO 0 * pd_M aO 1 * pd_M aO 2 * pd_M aO 3 * pd_M aO 4
theorem pd_h0 {aO : Nat → Int32} {p v : Nat} (z : aO (10 * p + v) = 0) : pd_h aO p v = false := by
  unfold pd_h; rw [decide_eq_true z]; rfl
theorem pd_h1 {aO : Nat → Int32} {p v : Nat} (z : ¬ aO (10 * p + v) = 0) : pd_h aO p v = true := by
  unfold pd_h; rw [decide_eq_false z]; rfl
theorem pd_Mpos (aO : Nat → Int32) (p : Nat) : 0 < pd_M aO p := Nat.succ_pos _
theorem pd_o_cases {aO : Nat → Int32} {p d : Nat} (hd : d < pd_M aO p) : (d = 0 ∧ pd_o aO p d = 0) ∨ (0 < d ∧ 1 ≤ pd_o aO p d ∧ pd_o aO p d ≤ 9 ∧ pd_h aO p (pd_o aO p d) = true) := by
  cases d with
  | zero => exact Or.inl ⟨rfl, rfl⟩
  | succ d =>
    have hd' : d < (pd_L aO p).length := by unfold pd_M at hd; omega
    have e : pd_o aO p (d + 1) = (pd_L aO p)[d] := by
      unfold pd_o
      rw [List.getD_cons_succ, List.getD_eq_getElem?_getD, List.getElem?_eq_getElem hd', Option.getD_some]
    have m : (pd_L aO p)[d] ∈ pd_ds (pd_h aO p) 9 := List.getElem_mem hd'
    obtain ⟨a, b, c⟩ := pd_ds_mem m
    refine Or.inr ⟨Nat.succ_pos _, ?_⟩
    rw [e]
    exact ⟨a, b, c⟩
theorem pd_o9 {aO : Nat → Int32} {p d : Nat} (hd : d < pd_M aO p) : pd_o aO p d ≤ 9 := by
  rcases pd_o_cases hd with ⟨_, e⟩ | ⟨_, _, e, _⟩
  · omega
  · exact e
theorem pd_c9 (aO : Nat → Int32) (n p : Nat) : pd_c aO n p ≤ 9 := pd_o9 (Nat.mod_lt _ (pd_Mpos aO p))
theorem pd_next {aO : Nat → Int32} {p d : Nat} (hd : d < pd_M aO p) : pd_nv (pd_h aO p) (if pd_o aO p d = 0 then 9 else pd_o aO p d - 1) = pd_o aO p ((d + 1) % pd_M aO p) := by
  have key : ∀ e, e < pd_M aO p → (pd_L aO p).getD e 0 = pd_o aO p ((e + 1) % pd_M aO p) := by
    intro e he
    by_cases h : e + 1 = pd_M aO p
    · rw [h, Nat.mod_self]
      have : (pd_L aO p).length ≤ e := by unfold pd_M at h; omega
      rw [List.getD_eq_getElem?_getD, List.getElem?_eq_none this]
      rfl
    · rw [Nat.mod_eq_of_lt (by omega)]
      unfold pd_o
      rw [List.getD_cons_succ]
  cases d with
  | zero =>
    have e : pd_o aO p 0 = 0 := rfl
    rw [e, if_pos rfl, pd_nv_ds]
    exact key 0 hd
  | succ d =>
    have hd' : d < (pd_L aO p).length := by unfold pd_M at hd; omega
    have e : pd_o aO p (d + 1) = (pd_L aO p)[d] := by
      unfold pd_o
      rw [List.getD_cons_succ, List.getD_eq_getElem?_getD, List.getElem?_eq_getElem hd', Option.getD_some]
    have hm : 1 ≤ (pd_L aO p)[d] := (pd_ds_mem (h := pd_h aO p) (s := 9) (List.getElem_mem hd')).1
    rw [e, if_neg (by omega), pd_nv_ds, ← key (d + 1) hd]
    have e2 := pd_ds_drop (h := pd_h aO p) (s := 9) (d := d) hd'
    show (pd_ds (pd_h aO p) ((pd_ds (pd_h aO p) 9)[d] - 1)).getD 0 0 = _
    rw [← e2]
    show _ = (pd_ds (pd_h aO p) 9).getD (d + 1) 0
    simp [List.getD_eq_getElem?_getD]
theorem pd_succdiv {a m : Nat} (hm : 0 < m) : (a + 1) / m = if (a + 1) % m = 0 then a / m + 1 else a / m := by
  have h1 := Nat.div_add_mod a m
  have h2 := Nat.mod_lt a hm
  by_cases z : a % m + 1 = m
  · have e : a + 1 = m * (a / m + 1) := by rw [Nat.mul_add, Nat.mul_one]; omega
    have e1 : (a + 1) % m = 0 := by rw [e, Nat.mul_mod_right]
    rw [if_pos e1, e, Nat.mul_div_cancel_left _ hm]
  · have e : a + 1 = m * (a / m) + (a % m + 1) := by omega
    have e1 : (a + 1) % m = a % m + 1 := by
      rw [e, Nat.mul_add_mod, Nat.mod_eq_of_lt (by omega)]
    rw [if_neg (by omega), e, Nat.mul_add_div hm, Nat.div_eq_of_lt (show a % m + 1 < m by omega), Nat.add_zero]
theorem pd_succmod {a m : Nat} : (a + 1) % m = (a % m + 1) % m := by
  rw [Nat.add_mod, Nat.mod_add_mod, Nat.add_mod]
  simp
theorem pd_dscount_le {h : Nat → Bool} : ∀ s, (pd_ds h s).length ≤ s := by
  intro s
  induction s with
  | zero => exact Nat.le_refl _
  | succ s ih =>
    cases z : h (s + 1)
    · rw [pd_dsN z]; omega
    · rw [pd_dsP z, List.length_cons]; omega
theorem pd_ds_congr {h h' : Nat → Bool} : ∀ s, (∀ v, 1 ≤ v → v ≤ s → h v = h' v) → pd_ds h s = pd_ds h' s := by
  intro s
  induction s with
  | zero => intro _; rfl
  | succ s ih =>
    intro e
    have i := ih (fun v a b => e v a (by omega))
    have z := e (s + 1) (by omega) (Nat.le_refl _)
    rw [pd_ds, pd_ds, z, i]
theorem pd_ds_add {h h' : Nat → Bool} {v : Nat} (h0 : h v = false) (h1 : h' v = true) (ho : ∀ u, u ≠ v → h' u = h u) (hv : 1 ≤ v) : ∀ s, v ≤ s → (pd_ds h' s).length = (pd_ds h s).length + 1 := by
  intro s
  induction s with
  | zero => intro h; omega
  | succ s ih =>
    intro hs
    by_cases z : v = s + 1
    · subst z
      rw [pd_dsP h1, pd_dsN h0, List.length_cons, pd_ds_congr s (fun u _ b => ho u (by omega))]
    · have i := ih (by omega)
      have e := ho (s + 1) (fun q => z q.symm)
      cases y : h (s + 1)
      · rw [pd_dsN y, pd_dsN (e.trans y), i]
      · rw [pd_dsP y, pd_dsP (e.trans y), List.length_cons, List.length_cons, i]
