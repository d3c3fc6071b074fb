section
/-! rows of kit/rows, pasted: stores, nI, branches by naturals, shifts, bits -/
theorem pk_us {f : Nat → Int32} {k : Nat} {x : Int32} : upd f k x k = x := if_pos rfl
theorem pk_un {f : Nat → Int32} {k j : Nat} {x : Int32} (h : j ≠ k) : upd f k x j = f j := if_neg h
theorem pk_sub {a b : Nat} (h : b ≤ a) : nI a - nI b = nI (a - b) := by
  obtain ⟨c, rfl⟩ : ∃ c, a = c + b := ⟨a - b, by omega⟩
  rw [← nI_add, Int32.add_sub_cancel, Nat.add_sub_cancel]
theorem pk_m1 (n : Nat) : nI (n + 1) + (-1) = nI n := by
  rw [← nI_1, Int32.add_assoc, show (1 : Int32) + (-1) = 0 from rfl, Int32.add_zero]
theorem pk_mul (a b : Nat) : nI a * nI b = nI (a * b) := (Int32.ofNat_mul a b).symm
theorem pk_div {a d : Nat} (ha : a < 2 ^ 31) (h0 : 0 < d) (hd : d < 2 ^ 31) : nI a / nI d = nI (a / d) := by
  apply Int32.toInt_inj.mp
  rw [lg_idiv_nonneg (by rw [nI_toInt ha]; omega) (by rw [nI_toInt hd]; omega), nI_toInt ha, nI_toInt hd, nI_toInt (Nat.lt_of_le_of_lt (Nat.div_le_self a d) ha)]
  first | rfl | exact (Int.natCast_ediv _ _).symm
theorem pk_rem {a d : Nat} (ha : a < 2 ^ 31) (h0 : 0 < d) (hd : d < 2 ^ 31) : nI a - nI a / nI d * nI d = nI (a % d) := by
  rw [pk_div ha h0 hd, pk_mul, pk_sub (Nat.div_mul_le_self a d)]
  exact congrArg nI (by have := Nat.div_add_mod' a d; omega)
theorem pk_sub_toInt {a b : Nat} (ha : a < 2 ^ 30) (hb : b < 2 ^ 30) : (nI a - nI b).toInt = (a : Int) - b := by
  rw [Int32.toInt_sub, nI_toInt (by omega), nI_toInt (by omega)]
  exact Int.bmod_eq_of_le (by omega) (by omega)
theorem pk_sneg {a b : Nat} (hb : b < 2 ^ 30) (h : a < b) : nI a - nI b < 0 := by
  rw [Int32.lt_iff_toInt_lt, pk_sub_toInt (by omega) hb, show (0 : Int32).toInt = 0 from by decide]
  omega
theorem pk_ix (x : Int32) {n : Nat} (hn : n < 2 ^ 31) : x < 0 ∨ nI n ≤ x ∨ ∃ j : Nat, j < n ∧ x = nI j := by
  by_cases h : x < 0
  · exact Or.inl h
  · obtain ⟨j, hj, rfl⟩ := nI_of h
    by_cases h2 : j < n
    · exact Or.inr (Or.inr ⟨j, h2, rfl⟩)
    · exact Or.inr (Or.inl (nI_le (by omega) hj))
theorem pk_le {x y : Int32} {A B : Prop} (a b : Nat) (f : a ≤ b → A) (g : b < a → B) (hx : x = nI a := by rfl) (hy : y = nI b := by rfl) (ha : a < 2 ^ 31 := by omega) (hb : b < 2 ^ 31 := by omega) : (x ≤ y → A) ∧ (¬ x ≤ y → B) := by
  subst hx hy
  rw [nI_leI ha hb]
  exact ⟨f, fun z => g (by omega)⟩
theorem pk_lt {x y : Int32} {A B : Prop} (a b : Nat) (f : a < b → A) (g : b ≤ a → B) (hx : x = nI a := by rfl) (hy : y = nI b := by rfl) (ha : a < 2 ^ 31 := by omega) (hb : b < 2 ^ 31 := by omega) : (x < y → A) ∧ (¬ x < y → B) := by
  subst hx hy
  rw [nI_ltI ha hb]
  exact ⟨f, fun z => g (by omega)⟩
theorem pk_eq {x y : Int32} {A B : Prop} (a b : Nat) (f : a = b → A) (g : a ≠ b → B) (hx : x = nI a := by rfl) (hy : y = nI b := by rfl) (ha : a < 2 ^ 31 := by omega) (hb : b < 2 ^ 31 := by omega) : (x = y → A) ∧ (¬ x = y → B) := by
  subst hx hy
  rw [nI_eq ha hb]
  exact ⟨f, g⟩
theorem pk_in {x : Int32} (n N : Nat) (h : n < N) (hx : x = nI n := by rfl) (hN : N < 2 ^ 31 := by omega) : vp_in x N := by
  subst hx
  exact vp_in_nI h hN
theorem pk_cl {x : Int32} (n : Nat) (hx : x = nI n := by rfl) (h : n < 2 ^ 31 := by omega) : x.toNatClampNeg = n := by
  subst hx
  exact nI_clamp h
theorem pk_tn {n : Nat} (h : n < 2 ^ 32) : (nI n).toBitVec.toNat = n := Nat.mod_eq_of_lt h
theorem pk_shl (a s : Int32) (k : Nat) (hs : (s.toBitVec.smod 32).toNat = k) : (a <<< s).toBitVec.toNat = a.toBitVec.toNat * 2 ^ k % 2 ^ 32 := by
  show (a.toBitVec <<< (s.toBitVec.smod 32).toNat).toNat = _
  rw [hs, BitVec.toNat_shiftLeft, Nat.shiftLeft_eq]
theorem pk_shlN {n : Nat} (s : Int32) (k : Nat) (hs : (s.toBitVec.smod 32).toNat = k) (h : n * 2 ^ k < 2 ^ 32) : nI n <<< s = nI (n * 2 ^ k) := by
  apply Int32.toBitVec_inj.mp
  apply BitVec.eq_of_toNat_eq
  have hn : n < 2 ^ 32 := Nat.lt_of_le_of_lt (Nat.le_mul_of_pos_right n (Nat.two_pow_pos k)) h
  rw [pk_shl _ _ k hs, pk_tn hn, pk_tn h, Nat.mod_eq_of_lt h]
theorem pk_shr (a s : Int32) (k : Nat) (hs : (s.toBitVec.smod 32).toNat = k) : (a >>> s).toInt = a.toInt >>> k := by
  show (a.toBitVec.sshiftRight (s.toBitVec.smod 32).toNat).toInt = _
  rw [hs, BitVec.toInt_sshiftRight]
  rfl
theorem pk_shrN {n : Nat} (h : n < 2 ^ 31) (s : Int32) (k : Nat) (hs : (s.toBitVec.smod 32).toNat = k) : nI n >>> s = nI (n / 2 ^ k) := by
  apply Int32.toInt_inj.mp
  have h2 : n / 2 ^ k ≤ n := Nat.div_le_self _ _
  rw [pk_shr _ _ k hs, nI_toInt h, nI_toInt (by omega), Int.shiftRight_eq_div_pow]
  rfl
def bt (x : Int32) (i : Nat) : Bool := x.toBitVec.getLsbD i
theorem b_ext {x y : Int32} (h : ∀ i, i < 32 → bt x i = bt y i) : x = y := Int32.toBitVec_inj.mp (BitVec.eq_of_getLsbD_eq (fun i hi => h i hi))
theorem b_or (x y : Int32) (i : Nat) : bt (x ||| y) i = (bt x i || bt y i) := by unfold bt; rw [Int32.toBitVec_or, BitVec.getLsbD_or]
theorem b_and (x y : Int32) (i : Nat) : bt (x &&& y) i = (bt x i && bt y i) := by unfold bt; rw [Int32.toBitVec_and, BitVec.getLsbD_and]
theorem b_xor (x y : Int32) (i : Nat) : bt (x ^^^ y) i = (bt x i ^^ bt y i) := by unfold bt; rw [Int32.toBitVec_xor, BitVec.getLsbD_xor]
theorem b_big {x : Int32} {i : Nat} (h : 32 ≤ i) : bt x i = false := BitVec.getLsbD_of_ge _ _ h
theorem b_m1 : ∀ i, i < 32 → bt (-1) i = true := by decide +kernel
theorem b_0 (i : Nat) : bt 0 i = false := BitVec.getLsbD_zero
theorem s_l : ∀ n, n < 32 → ((nI n &&& 31).toBitVec.smod 32).toNat = n := by decide +kernel
theorem b_shl (n : Nat) (hn : n < 32) (x : Int32) {i : Nat} (hi : i < 32) : bt (x <<< (nI n &&& 31)) i = (decide (n ≤ i) && bt x (i - n)) := by
  unfold bt
  rw [Int32.toBitVec_shiftLeft]
  show (x.toBitVec <<< ((nI n &&& 31).toBitVec.smod 32).toNat).getLsbD i = _
  rw [s_l n hn, BitVec.getLsbD_shiftLeft]
  rcases Nat.lt_or_ge i n with h | h
  · simp [h, Nat.not_le.mpr h]
  · simp [hi, h, Nat.not_lt.mpr h]
theorem b_sshr (n : Nat) (hn : n < 32) (x : Int32) {i : Nat} (hi : i < 32) : bt (x >>> (nI n &&& 31)) i = if n + i < 32 then bt x (n + i) else bt x 31 := by
  unfold bt
  rw [Int32.toBitVec_shiftRight]
  show (x.toBitVec.sshiftRight ((nI n &&& 31).toBitVec.smod 32).toNat).getLsbD i = _
  rw [s_l n hn, BitVec.getLsbD_sshiftRight, BitVec.msb_eq_getLsbD_last]
  simp [hi]
theorem nx_and (a b : Nat) : nI a &&& nI b = nI (a &&& b) := by
  apply Int32.toBitVec_inj.1
  show BitVec.ofNat 32 a &&& BitVec.ofNat 32 b = BitVec.ofNat 32 (a &&& b)
  apply BitVec.eq_of_getLsbD_eq
  intro i hi
  simp [hi]
end
section
/-! pure: masks, ranges, lists of versions, the numbering of choices -/
theorem pd_lin (a p v : Nat) : nI a * nI p + nI v = nI (a * p + v) := by rw [pk_mul, nI_add]
theorem pd_l10 (p v : Nat) : (10 : Int32) * nI p + nI v = nI (10 * p + v) := pd_lin 10 p v
theorem pd_l3 (p v : Nat) : (3 : Int32) * nI p + nI v = nI (3 * p + v) := pd_lin 3 p v
theorem pd_l5 (p v : Nat) : (5 : Int32) * nI p + nI v = nI (5 * p + v) := pd_lin 5 p v
theorem pd_or (a b : Nat) : nI a ||| nI b = nI (a ||| b) := by
  apply Int32.toBitVec_inj.1
  show BitVec.ofNat 32 a ||| BitVec.ofNat 32 b = BitVec.ofNat 32 (a ||| b)
  apply BitVec.eq_of_getLsbD_eq
  intro i hi
  simp [hi]
theorem pd_shl1 {i : Nat} (h : i < 31) : (1 : Int32) <<< (nI i &&& 31) = nI (2 ^ i) := by
  have h2 : 2 ^ i < 2 ^ 31 := Nat.pow_lt_pow_right (by decide) h
  have e := pk_shlN (n := 1) (nI i &&& 31) i (s_l i (by omega)) (by omega)
  rw [Nat.one_mul] at e
  exact e
theorem pd_b1 : ∀ i, i < 32 → bt 1 i = decide (i = 0) := by decide +kernel
theorem pd_bit0 (x : Int32) {j : Nat} (hj : j < 31) : (((x >>> (nI j &&& 31)) &&& 1) = 0) ↔ bt x j = false := by
  constructor
  · intro h
    have e : bt ((x >>> (nI j &&& 31)) &&& 1) 0 = false := by rw [h]; exact b_0 0
    rw [b_and, b_sshr j (by omega) x (by omega), pd_b1 0 (by omega), Nat.add_zero, if_pos (by omega)] at e
    simpa using e
  · intro h
    apply b_ext
    intro i hi
    rw [b_and, b_sshr j (by omega) x hi, pd_b1 i hi, b_0]
    by_cases z : i = 0
    · subst z
      rw [Nat.add_zero, if_pos (by omega), h]
      rfl
    · rw [decide_eq_false z, Bool.and_false]
theorem pd_bit1 (x : Int32) {j : Nat} (hj : j < 31) : (((x >>> (nI j &&& 31)) &&& 1) = 1) ↔ bt x j = true := by
  constructor
  · intro h
    have e : bt ((x >>> (nI j &&& 31)) &&& 1) 0 = true := by rw [h]; decide
    rw [b_and, b_sshr j (by omega) x (by omega), pd_b1 0 (by omega), Nat.add_zero, if_pos (by omega)] at e
    simpa using e
  · intro h
    apply b_ext
    intro i hi
    rw [b_and, b_sshr j (by omega) x hi, pd_b1 i hi]
    by_cases z : i = 0
    · subst z
      rw [Nat.add_zero, if_pos (by omega), h]
      rfl
    · rw [decide_eq_false z, Bool.and_false]
theorem pd_bs (j : Nat) (hj : j < 32) {i : Nat} (hi : i < 32) : bt ((1 : Int32) <<< (nI j &&& 31)) i = decide (i = j) := by
  rw [b_shl j hj 1 hi, pd_b1 (i - j) (by omega)]
  by_cases z : i = j
  · subst z; simp
  · rw [decide_eq_false z]
    by_cases y : j ≤ i
    · rw [decide_eq_true y, decide_eq_false (by omega)]; rfl
    · rw [decide_eq_false y]; rfl
theorem pd_bn (x : Int32) {i : Nat} (hi : i < 32) : bt (x ^^^ (-1)) i = !bt x i := by
  rw [b_xor, b_m1 i hi, Bool.xor_true]
theorem pd_b0i {x : Int32} : x = 0 ↔ ∀ i, i < 32 → bt x i = false := by
  constructor
  · intro h i _; rw [h]; exact b_0 i
  · intro h
    apply b_ext
    intro i hi
    rw [h i hi, b_0]
/-- a version against a range, as both sides compute it -/
def pd_r (v r : Int32) : Int32 := if v < r / 10 then 0 else if (r - r / 10 * 10) < v then 0 else 1
theorem pd_r01 (v r : Int32) : pd_r v r = 0 ∨ pd_r v r = 1 := by
  unfold pd_r
  split
  · exact Or.inl rfl
  · split
    · exact Or.inl rfl
    · exact Or.inr rfl
/-- a copy of the first q cells -/
def pd_cp (a b : Nat → Int32) (q : Nat) : Nat → Int32 := fun j => if j < q then b j else a j
theorem pd_cp0 (a b : Nat → Int32) : pd_cp a b 0 = a := by
  funext j; unfold pd_cp; rw [if_neg (by omega)]
theorem pd_cps (a b : Nat → Int32) (q : Nat) : upd (pd_cp a b q) q (b q) = pd_cp a b (q + 1) := by
  funext j
  unfold upd pd_cp
  by_cases h : j = q
  · subst h; rw [if_pos rfl, if_pos (by omega)]
  · rw [if_neg h]
    by_cases h2 : j < q
    · rw [if_pos h2, if_pos (by omega)]
    · rw [if_neg h2, if_neg (by omega)]
theorem pd_cpc {a b b' : Nat → Int32} {q : Nat} (h : ∀ p, p < q → b p = b' p) : pd_cp a b q = pd_cp a b' q := by
  funext j
  unfold pd_cp
  by_cases h2 : j < q
  · rw [if_pos h2, if_pos h2, h j h2]
  · rw [if_neg h2, if_neg h2]
theorem pd_cpe {a b : Nat → Int32} {q p : Nat} (h : p < q) : pd_cp a b q p = b p := if_pos h
/-- cells lo .. hi-1 take what stands k further on -/
def pd_sv (a : Nat → Int32) (lo hi k : Nat) : Nat → Int32 := fun j => if lo ≤ j ∧ j < hi then a (j + k) else a j
theorem pd_sv0 (a : Nat → Int32) (lo k : Nat) : pd_sv a lo lo k = a := by
  funext j; unfold pd_sv; rw [if_neg (by omega)]
theorem pd_svs (a : Nat → Int32) {lo hi k : Nat} (h : lo ≤ hi) (hk : 0 < k) : upd (pd_sv a lo hi k) hi (pd_sv a lo hi k (hi + k)) = pd_sv a lo (hi + 1) k := by
  funext j
  unfold upd pd_sv
  by_cases h1 : j = hi
  · subst h1; rw [if_pos rfl, if_neg (by omega), if_pos (by omega)]
  · rw [if_neg h1]
    by_cases h2 : lo ≤ j ∧ j < hi
    · rw [if_pos h2, if_pos (by omega)]
    · rw [if_neg h2, if_neg (by omega)]
/-- cells b .. b+q-1 take a row -/
def pd_kp (a : Nat → Int32) (b : Nat) (r : Nat → Int32) (q : Nat) : Nat → Int32 := fun j => if b ≤ j ∧ j < b + q then r (j - b) else a j
theorem pd_kp0 (a : Nat → Int32) (b : Nat) (r : Nat → Int32) : pd_kp a b r 0 = a := by
  funext j; unfold pd_kp; rw [if_neg (by omega)]
theorem pd_kps (a : Nat → Int32) (b : Nat) (r : Nat → Int32) (q : Nat) : upd (pd_kp a b r q) (b + q) (r q) = pd_kp a b r (q + 1) := by
  funext j
  unfold upd pd_kp
  by_cases h1 : j = b + q
  · subst h1; rw [if_pos rfl, if_pos (by omega), Nat.add_sub_cancel_left]
  · rw [if_neg h1]
    by_cases h2 : b ≤ j ∧ j < b + q
    · rw [if_pos h2, if_pos (by omega)]
    · rw [if_neg h2, if_neg (by omega)]
/-- the versions s .. 1 that are offered, from the greatest -/
def pd_ds (h : Nat → Bool) : Nat → List Nat
  | 0 => []
  | s + 1 => if h (s + 1) then (s + 1) :: pd_ds h s else pd_ds h s
theorem pd_dsP {h : Nat → Bool} {s : Nat} (z : h (s + 1) = true) : pd_ds h (s + 1) = (s + 1) :: pd_ds h s := by
  rw [pd_ds, if_pos z]
theorem pd_dsN {h : Nat → Bool} {s : Nat} (z : h (s + 1) = false) : pd_ds h (s + 1) = pd_ds h s := by
  rw [pd_ds, z]; rfl
theorem pd_ds_mem {h : Nat → Bool} : ∀ {s v : Nat}, v ∈ pd_ds h s → 1 ≤ v ∧ v ≤ s ∧ h v = true := by
  intro s
  induction s with
  | zero => intro v hv; cases hv
  | succ s ih =>
    intro v hv
    cases z : h (s + 1)
    · rw [pd_dsN z] at hv
      obtain ⟨a, b, c⟩ := ih hv
      exact ⟨a, by omega, c⟩
    · rw [pd_dsP z] at hv
      cases hv with
      | head => exact ⟨by omega, by omega, z⟩
      | tail _ hv =>
        obtain ⟨a, b, c⟩ := ih hv
        exact ⟨a, by omega, c⟩
theorem pd_ds_drop {h : Nat → Bool} : ∀ {s d : Nat} (hd : d < (pd_ds h s).length), (pd_ds h s).drop (d + 1) = pd_ds h ((pd_ds h s)[d] - 1) := by
  intro s
  induction s with
  | zero => intro d hd; exact absurd hd (Nat.not_lt_zero _)
  | succ s ih =>
    intro d hd
    cases z : h (s + 1)
    · have e := pd_dsN z
      have hd' : d < (pd_ds h s).length := by rw [← e]; exact hd
      have e2 := ih hd'
      have e3 : (pd_ds h (s + 1))[d] = (pd_ds h s)[d] := by
        congr 1
      rw [e3, e]
      exact e2
    · have e := pd_dsP z
      cases d with
      | zero =>
        have e3 : (pd_ds h (s + 1))[0] = s + 1 := by simp only [e, List.getElem_cons_zero]
        rw [e3, e]
        rfl
      | succ d =>
        have hd' : d < (pd_ds h s).length := by
          rw [e] at hd
          simpa using hd
        have e3 : (pd_ds h (s + 1))[d + 1] = (pd_ds h s)[d] := by simp only [e, List.getElem_cons_succ]
        rw [e3, e, List.drop_succ_cons]
        exact ih hd'
/-- the next offered one from s downwards, or 0 -/
def pd_nv (h : Nat → Bool) : Nat → Nat
  | 0 => 0
  | s + 1 => if h (s + 1) then s + 1 else pd_nv h s
theorem pd_nv_ds (h : Nat → Bool) : ∀ s, pd_nv h s = (pd_ds h s).getD 0 0 := by
  intro s
  induction s with
  | zero => rfl
  | succ s ih =>
    cases z : h (s + 1)
    · rw [pd_dsN z, ← ih, pd_nv, z]; rfl
    · rw [pd_dsP z, pd_nv, z]; rfl
def pd_h (aO : Nat → Int32) (p v : Nat) : Bool := !decide (aO (10 * p + v) = 0)
def pd_L (aO : Nat → Int32) (p : Nat) : List Nat := pd_ds (pd_h aO p) 9
def pd_M (aO : Nat → Int32) (p : Nat) : Nat := (pd_L aO p).length + 1
def pd_o (aO : Nat → Int32) (p d : Nat) : Nat := (0 :: pd_L aO p).getD d 0
def pd_rk (aO : Nat → Int32) (n : Nat) : Nat → Nat
  | 0 => n
  | k + 1 => pd_rk aO n k / pd_M aO (4 - k)
def pd_c (aO : Nat → Int32) (n p : Nat) : Nat := pd_o aO p (pd_rk aO n (4 - p) % pd_M aO p)
def pd_ci (aO : Nat → Int32) (n : Nat) : Nat → Int32 := fun p => nI (pd_c aO n p)
def pd_T (aO : Nat → Int32) : Nat := pd_M aO 0 * pd_M aO 1 * pd_M aO 2 * pd_M aO 3 * pd_M aO 4
theorem pd_h0 {aO : Nat → Int32} {p v : Nat} (z : aO (10 * p + v) = 0) : pd_h aO p v = false := by
  unfold pd_h; rw [decide_eq_true z]; rfl
theorem pd_h1 {aO : Nat → Int32} {p v : Nat} (z : ¬ aO (10 * p + v) = 0) : pd_h aO p v = true := by
  unfold pd_h; rw [decide_eq_false z]; rfl
theorem pd_Mpos (aO : Nat → Int32) (p : Nat) : 0 < pd_M aO p := Nat.succ_pos _
theorem pd_o_cases {aO : Nat → Int32} {p d : Nat} (hd : d < pd_M aO p) : (d = 0 ∧ pd_o aO p d = 0) ∨ (0 < d ∧ 1 ≤ pd_o aO p d ∧ pd_o aO p d ≤ 9 ∧ pd_h aO p (pd_o aO p d) = true) := by
  cases d with
  | zero => exact Or.inl ⟨rfl, rfl⟩
  | succ d =>
    have hd' : d < (pd_L aO p).length := by unfold pd_M at hd; omega
    have e : pd_o aO p (d + 1) = (pd_L aO p)[d] := by
      unfold pd_o
      rw [List.getD_cons_succ, List.getD_eq_getElem?_getD, List.getElem?_eq_getElem hd', Option.getD_some]
    have m : (pd_L aO p)[d] ∈ pd_ds (pd_h aO p) 9 := List.getElem_mem hd'
    obtain ⟨a, b, c⟩ := pd_ds_mem m
    refine Or.inr ⟨Nat.succ_pos _, ?_⟩
    rw [e]
    exact ⟨a, b, c⟩
theorem pd_o9 {aO : Nat → Int32} {p d : Nat} (hd : d < pd_M aO p) : pd_o aO p d ≤ 9 := by
  rcases pd_o_cases hd with ⟨_, e⟩ | ⟨_, _, e, _⟩
  · omega
  · exact e
theorem pd_c9 (aO : Nat → Int32) (n p : Nat) : pd_c aO n p ≤ 9 := pd_o9 (Nat.mod_lt _ (pd_Mpos aO p))
theorem pd_next {aO : Nat → Int32} {p d : Nat} (hd : d < pd_M aO p) : pd_nv (pd_h aO p) (if pd_o aO p d = 0 then 9 else pd_o aO p d - 1) = pd_o aO p ((d + 1) % pd_M aO p) := by
  have key : ∀ e, e < pd_M aO p → (pd_L aO p).getD e 0 = pd_o aO p ((e + 1) % pd_M aO p) := by
    intro e he
    by_cases h : e + 1 = pd_M aO p
    · rw [h, Nat.mod_self]
      have : (pd_L aO p).length ≤ e := by unfold pd_M at h; omega
      rw [List.getD_eq_getElem?_getD, List.getElem?_eq_none this]
      rfl
    · rw [Nat.mod_eq_of_lt (by omega)]
      unfold pd_o
      rw [List.getD_cons_succ]
  cases d with
  | zero =>
    have e : pd_o aO p 0 = 0 := rfl
    rw [e, if_pos rfl, pd_nv_ds]
    exact key 0 hd
  | succ d =>
    have hd' : d < (pd_L aO p).length := by unfold pd_M at hd; omega
    have e : pd_o aO p (d + 1) = (pd_L aO p)[d] := by
      unfold pd_o
      rw [List.getD_cons_succ, List.getD_eq_getElem?_getD, List.getElem?_eq_getElem hd', Option.getD_some]
    have hm : 1 ≤ (pd_L aO p)[d] := (pd_ds_mem (h := pd_h aO p) (s := 9) (List.getElem_mem hd')).1
    rw [e, if_neg (by omega), pd_nv_ds, ← key (d + 1) hd]
    have e2 := pd_ds_drop (h := pd_h aO p) (s := 9) (d := d) hd'
    show (pd_ds (pd_h aO p) ((pd_ds (pd_h aO p) 9)[d] - 1)).getD 0 0 = _
    rw [← e2]
    show _ = (pd_ds (pd_h aO p) 9).getD (d + 1) 0
    simp [List.getD_eq_getElem?_getD]
theorem pd_succdiv {a m : Nat} (hm : 0 < m) : (a + 1) / m = if (a + 1) % m = 0 then a / m + 1 else a / m := by
  have h1 := Nat.div_add_mod a m
  have h2 := Nat.mod_lt a hm
  by_cases z : a % m + 1 = m
  · have e : a + 1 = m * (a / m + 1) := by rw [Nat.mul_add, Nat.mul_one]; omega
    have e1 : (a + 1) % m = 0 := by rw [e, Nat.mul_mod_right]
    rw [if_pos e1, e, Nat.mul_div_cancel_left _ hm]
  · have e : a + 1 = m * (a / m) + (a % m + 1) := by omega
    have e1 : (a + 1) % m = a % m + 1 := by
      rw [e, Nat.mul_add_mod, Nat.mod_eq_of_lt (by omega)]
    rw [if_neg (by omega), e, Nat.mul_add_div hm, Nat.div_eq_of_lt (show a % m + 1 < m by omega), Nat.add_zero]
theorem pd_succmod {a m : Nat} : (a + 1) % m = (a % m + 1) % m := by
  rw [Nat.add_mod, Nat.mod_add_mod, Nat.add_mod]
  simp
theorem pd_dscount_le {h : Nat → Bool} : ∀ s, (pd_ds h s).length ≤ s := by
  intro s
  induction s with
  | zero => exact Nat.le_refl _
  | succ s ih =>
    cases z : h (s + 1)
    · rw [pd_dsN z]; omega
    · rw [pd_dsP z, List.length_cons]; omega
theorem pd_ds_congr {h h' : Nat → Bool} : ∀ s, (∀ v, 1 ≤ v → v ≤ s → h v = h' v) → pd_ds h s = pd_ds h' s := by
  intro s
  induction s with
  | zero => intro _; rfl
  | succ s ih =>
    intro e
    have i := ih (fun v a b => e v a (by omega))
    have z := e (s + 1) (by omega) (Nat.le_refl _)
    rw [pd_ds, pd_ds, z, i]
theorem pd_ds_add {h h' : Nat → Bool} {v : Nat} (h0 : h v = false) (h1 : h' v = true) (ho : ∀ u, u ≠ v → h' u = h u) (hv : 1 ≤ v) : ∀ s, v ≤ s → (pd_ds h' s).length = (pd_ds h s).length + 1 := by
  intro s
  induction s with
  | zero => intro h; omega
  | succ s ih =>
    intro hs
    by_cases z : v = s + 1
    · subst z
      rw [pd_dsP h1, pd_dsN h0, List.length_cons, pd_ds_congr s (fun u _ b => ho u (by omega))]
    · have i := ih (by omega)
      have e := ho (s + 1) (fun q => z q.symm)
      cases y : h (s + 1)
      · rw [pd_dsN y, pd_dsN (e.trans y), i]
      · rw [pd_dsP y, pd_dsP (e.trans y), List.length_cons, List.length_cons, i]
end
section
/-! what a choice must keep, and X's and Y's walks through it -/
section
def pd_I (aD aT aW : Nat → Int32) : Prop := (∀ c, c < 50 → ∃ d, d ≤ 3 ∧ aD c = nI d) ∧ (∀ s, s < 150 → ∃ o, o < 5 ∧ aT s = nI o) ∧ (∀ i, i < 4 → ∃ o, o < 5 ∧ aW i = nI o)
def pd_9 (c : Nat → Int32) : Prop := ∀ p, p < 5 → ∃ x, x ≤ 9 ∧ c p = nI x
def pd_D (aD aN aT aR c : Nat → Int32) (e : Nat) : Prop := ∀ i, i < (aD e).toNatClampNeg → pd_r (c (aT (3 * e + i)).toNatClampNeg) (aR (3 * e + i)) = aN (3 * e + i)
def pd_t (aP c : Nat → Int32) : Nat → Int32
  | 0 => 0
  | p + 1 => if c p = 0 then pd_t aP c p else pd_t aP c p ||| aP (10 * p + (c p).toNatClampNeg)
def pd_S (aP aD aN aT aR c : Nat → Int32) : Prop := ∀ p, p < 5 → ¬ c p = 0 → (pd_t aP c p &&& aP (10 * p + (c p).toNatClampNeg)) = 0 ∧ pd_D aD aN aT aR c (10 * p + (c p).toNatClampNeg)
def pd_w (aH aW aG c : Nat → Int32) (i : Nat) : Bool := decide (pd_r (c (aW i).toNatClampNeg) (aG i) = aH i)
def pd_m (f : Nat → Bool) : Nat → Nat
  | 0 => 0
  | i + 1 => if f i then pd_m f i + 2 ^ i else pd_m f i
def pd_Q (w : Nat) (aP aD aN aT aR aH aW aG c : Nat → Int32) : Prop := (∀ i, i < w → pd_w aH aW aG c i = true) ∧ pd_S aP aD aN aT aR c
theorem pd_mlt (f : Nat → Bool) : ∀ i, pd_m f i < 2 ^ i := by
  intro i
  induction i with
  | zero => exact Nat.one_pos
  | succ i ih =>
    rw [pd_m, Nat.pow_succ]
    split <;> omega
theorem pd_or2 {m i : Nat} (h : m < 2 ^ i) : m ||| 2 ^ i = m + 2 ^ i := by
  have e := Nat.two_pow_add_eq_or_of_lt h 1
  rw [Nat.mul_one] at e
  rw [Nat.or_comm, ← e, Nat.add_comm]
theorem pd_mtb (f : Nat → Bool) : ∀ w i, i < w → (pd_m f w).testBit i = f i := by
  intro w
  induction w with
  | zero => intro i h; omega
  | succ w ih =>
    intro i hi
    have hm := pd_mlt f w
    by_cases z : i = w
    · subst z
      rw [pd_m]
      cases y : f i
      · exact Nat.testBit_lt_two_pow hm
      · rw [if_pos rfl, ← pd_or2 hm, Nat.testBit_or, Nat.testBit_lt_two_pow hm, Nat.testBit_two_pow_self]
        rfl
    · rw [pd_m]
      split
      · rw [← pd_or2 hm, Nat.testBit_or, ih i (by omega), Nat.testBit_two_pow_of_ne (by omega), Bool.or_false]
      · exact ih i (by omega)
theorem pd_mall (f : Nat → Bool) : ∀ w, pd_m f w = 2 ^ w - 1 ↔ ∀ i, i < w → f i = true := by
  intro w
  induction w with
  | zero => exact ⟨fun _ i h => absurd h (Nat.not_lt_zero _), fun _ => rfl⟩
  | succ w ih =>
    have hm := pd_mlt f w
    have hp : 0 < 2 ^ w := Nat.two_pow_pos w
    rw [pd_m, Nat.pow_succ]
    constructor
    · intro h
      cases y : f w
      · rw [y] at h
        rw [if_neg (by decide)] at h
        omega
      · rw [y, if_pos rfl] at h
        have := ih.mp (by omega)
        intro i hi
        by_cases z : i = w
        · rw [z]; exact y
        · exact this i (by omega)
    · intro h
      rw [if_pos (h w (by omega)), ih.mpr (fun i hi => h i (by omega))]
      omega
theorem pd_Dc {aD aN aT aR c c' : Nat → Int32} {e d : Nat} (he : e < 50) (hD : aD e = nI d) (hd : d ≤ 3) (hT : ∀ s, s < 150 → ∃ o, o < 5 ∧ aT s = nI o) (hc : ∀ p, p < 5 → c p = c' p) (h : pd_D aD aN aT aR c e) : pd_D aD aN aT aR c' e := by
  intro i hi
  have h2 := h i hi
  rw [hD, nI_clamp (by omega)] at hi
  obtain ⟨o, ho, eo⟩ := hT (3 * e + i) (by omega)
  rw [eo, nI_clamp (by omega)] at h2 ⊢
  rw [← hc o ho]
  exact h2
theorem pd_tc {aP c c' : Nat → Int32} (hc : ∀ p, p < 5 → c p = c' p) : ∀ p, p ≤ 5 → pd_t aP c p = pd_t aP c' p := by
  intro p
  induction p with
  | zero => intro _; rfl
  | succ p ih =>
    intro hp
    rw [pd_t, pd_t, ih (by omega), hc p (by omega)]
theorem pd_cell {c : Nat → Int32} (h9 : pd_9 c) {p : Nat} (hp : p < 5) : 10 * p + (c p).toNatClampNeg < 50 := by
  obtain ⟨x, hx, e⟩ := h9 p hp
  rw [e, nI_clamp (by omega)]
  omega
theorem pd_Sc {aP aD aN aT aR aW c c' : Nat → Int32} (hI : pd_I aD aT aW) (h9 : pd_9 c) (hc : ∀ p, p < 5 → c p = c' p) (h : pd_S aP aD aN aT aR c) : pd_S aP aD aN aT aR c' := by
  intro p hp hz
  have e := hc p hp
  have hl := pd_cell h9 hp
  obtain ⟨a, b⟩ := h p hp (by rw [e]; exact hz)
  obtain ⟨d, hd, hD⟩ := hI.1 _ hl
  have b' := pd_Dc hl hD hd hI.2.1 hc b
  rw [e] at a b'
  rw [pd_tc hc p (by omega)] at a
  exact ⟨a, b'⟩
theorem pd_wc {aH aW aG c c' : Nat → Int32} {i : Nat} (hW : ∃ o, o < 5 ∧ aW i = nI o) (hc : ∀ p, p < 5 → c p = c' p) : pd_w aH aW aG c i = pd_w aH aW aG c' i := by
  obtain ⟨o, ho, eo⟩ := hW
  unfold pd_w
  rw [eo, nI_clamp (by omega), hc o ho]
theorem pd_Qc {w : Nat} {aP aD aN aT aR aH aW aG c c' : Nat → Int32} (hw : w ≤ 4) (hI : pd_I aD aT aW) (h9 : pd_9 c) (hc : ∀ p, p < 5 → c p = c' p) (h : pd_Q w aP aD aN aT aR aH aW aG c) : pd_Q w aP aD aN aT aR aH aW aG c' :=
  ⟨fun i hi => (pd_wc (hI.2.2 i (by omega)) hc) ▸ h.1 i hi, pd_Sc hI h9 hc h.2⟩
theorem pd_9c {c c' : Nat → Int32} (h9 : pd_9 c) (hc : ∀ p, p < 5 → c p = c' p) : pd_9 c' := fun p hp => (hc p hp) ▸ h9 p hp
theorem pd_Qi {w : Nat} {aP aD aN aT aR aH aW aG c c' : Nat → Int32} (hw : w ≤ 4) (hI : pd_I aD aT aW) (h9 : pd_9 c) (hc : ∀ p, p < 5 → c p = c' p) : pd_Q w aP aD aN aT aR aH aW aG c ↔ pd_Q w aP aD aN aT aR aH aW aG c' :=
  ⟨pd_Qc hw hI h9 hc, pd_Qc hw hI (pd_9c h9 hc) (fun p hp => (hc p hp).symm)⟩
theorem pd_Si {aP aD aN aT aR aW c c' : Nat → Int32} (hI : pd_I aD aT aW) (h9 : pd_9 c) (hc : ∀ p, p < 5 → c p = c' p) : pd_S aP aD aN aT aR c ↔ pd_S aP aD aN aT aR c' :=
  ⟨pd_Sc hI h9 hc, pd_Sc hI (pd_9c h9 hc) (fun p hp => (hc p hp).symm)⟩
theorem pd_mc {f f' : Nat → Bool} : ∀ w, (∀ i, i < w → f i = f' i) → pd_m f w = pd_m f' w := by
  intro w
  induction w with
  | zero => intro _; rfl
  | succ w ih =>
    intro h
    rw [pd_m, pd_m, ih (fun i hi => h i (by omega)), h w (by omega)]
end
section
variable {fw fp fl fk fc fg yN yO : Int32} {aV aO aP aD aN aT aR aH aW aG aL aK aU aE tA tM tB tO tS yA yM yC yR : Nat → Int32}
theorem xp_in {post : Int32 → Prop} {v r : Int32} (h : post (pd_r v r)) : wpX_isInRange post v r := by
  refine ⟨by decide, br_c (fun c => ?_) (fun c => ⟨by decide, br_c (fun d => ?_) (fun d => ?_)⟩)⟩
  · rwa [pd_r, if_pos c] at h
  · rwa [pd_r, if_neg c, if_pos d] at h
  · rwa [pd_r, if_neg c, if_neg d] at h
theorem yp_in {post : Int32 → Prop} {v r : Int32} (h : post (pd_r v r)) : wpY_within post (fw, fp, fl, fk, yN, fg, yO, aO, aP, aD, aN, aT, aR, aH, aW, aG, yA, yM, yC, aL, aK, aU, aE, yR) v r := by
  refine ⟨by decide, br_c (fun c => ?_) (fun c => ⟨by decide, br_c (fun d => ?_) (fun d => ?_)⟩)⟩
  · rwa [pd_r, if_pos c] at h
  · rwa [pd_r, if_neg c, if_pos d] at h
  · rwa [pd_r, if_neg c, if_neg d] at h
theorem xp_dh_trial {post : Int32 → Prop} {e d : Nat} (he : e < 50) (hD : aD e = nI d) (hd : d ≤ 3) (hT : ∀ s, s < 150 → ∃ o, o < 5 ∧ aT s = nI o) (h1 : pd_D aD aN aT aR tA e → post 1) (h0 : ¬ pd_D aD aN aT aR tA e → post 0) : wpX_demandsHold__trial post (fw, fp, fl, fk, fc, fg, aV, aO, aP, aD, aN, aT, aR, aH, aW, aG, aL, aK, aU, aE, tA, tM, tB, tO, tS) (nI e) := by
  have key : ∀ g i, i + g = d → (∀ j, j < i → pd_r (tA (aT (3 * e + j)).toNatClampNeg) (aR (3 * e + j)) = aN (3 * e + j)) → wX_demandsHold__trial_2 post (nI e) fw fp fl fk fc fg aV aO aP aD aN aT aR aH aW aG aL aK aU aE tA tM tB tO tS (g + 1) (nI i) := by
    intro g
    induction g with
    | zero =>
      intro i hi hj
      refine ⟨vp_in_nI he (by omega), ?_⟩
      rw [nI_clamp (by omega), hD]
      refine br_t (nI_le (by omega) (by omega)) (h1 ?_)
      intro j hj'
      rw [hD, nI_clamp (by omega)] at hj'
      exact hj j (by omega)
    | succ g ih =>
      intro i hi hj
      have hk : 3 * e + i < 150 := by omega
      obtain ⟨o, ho, eo⟩ := hT (3 * e + i) hk
      refine ⟨vp_in_nI he (by omega), ?_⟩
      rw [nI_clamp (by omega), hD]
      refine br_f (nI_ge (by omega) (by omega)) (nm_r (e' := nI (3 * e + i)) (by rw [← nI_add, ← pk_mul]; rfl) ?_)
      rw [nI_clamp (n := 3 * e + i) (by omega)]
      refine ⟨vp_in_nI hk (by omega), by rw [eo]; exact vp_in_nI ho (by omega), vp_in_nI hk (by omega), xp_in ?_⟩
      refine ⟨vp_in_nI hk (by omega), br_c (fun c => nm_r (nI_1 i) (ih (i + 1) (by omega) ?_)) (fun c => h0 ?_)⟩
      · intro j hj'
        by_cases z : j = i
        · subst z; exact c
        · exact hj j (by omega)
      · intro hq
        exact c (hq i (by rw [hD, nI_clamp (by omega)]; omega))
  exact ⟨d + 1, key d 0 (by omega) (fun j hj => absurd hj (Nat.not_lt_zero _))⟩
theorem xp_snd_trial {post : Int32 → Prop} (hI : pd_I aD aT aW) (h9 : pd_9 tA) (h1 : pd_S aP aD aN aT aR tA → post 1) (h0 : ¬ pd_S aP aD aN aT aR tA → post 0) : wpX_isSound__trial post (fw, fp, fl, fk, fc, fg, aV, aO, aP, aD, aN, aT, aR, aH, aW, aG, aL, aK, aU, aE, tA, tM, tB, tO, tS) := by
  have key : ∀ g i, i + g = 5 → (∀ p, p < i → ¬ tA p = 0 → (pd_t aP tA p &&& aP (10 * p + (tA p).toNatClampNeg)) = 0 ∧ pd_D aD aN aT aR tA (10 * p + (tA p).toNatClampNeg)) → wX_isSound__trial_4 post fw fp fl fk fc fg aV aO aP aD aN aT aR aH aW aG aL aK aU aE tA tM tB tO tS (g + 1) (pd_t aP tA i) (nI i) := by
    intro g
    induction g with
    | zero =>
      intro i hi hj
      refine br_t (nI_le (a := 5) (by omega) (by omega)) (h1 ?_)
      intro p hp
      exact hj p (by omega)
    | succ g ih =>
      intro i hi hj
      have hi5 : i < 5 := by omega
      obtain ⟨x, hx, ex⟩ := h9 i hi5
      have hl : 10 * i + x < 50 := by omega
      obtain ⟨d, hd, hD⟩ := hI.1 _ hl
      have et : (tA i).toNatClampNeg = x := by rw [ex, nI_clamp (by omega)]
      refine br_f (lt5' i hi5) ⟨vp_in_nI hi5 (by omega), ?_⟩
      rw [nI_clamp (n := i) (by omega)]
      refine br_c (fun z => nm_r (nI_1 i) ?_) (fun z => ⟨vp_in_nI hi5 (by omega), nm_r (e' := nI (10 * i + x)) (by rw [ex, ← nI_add, ← pk_mul]; rfl) ⟨vp_in_nI hl (by omega), ?_⟩⟩)
      · have i2 := ih (i + 1) (by omega) (fun p hp hz => by
          by_cases q : p = i
          · subst q; exact absurd z hz
          · exact hj p (by omega) hz)
        rw [pd_t, if_pos z] at i2
        exact i2
      · rw [nI_clamp (n := 10 * i + x) (by omega)]
        refine br_c (fun a => ?_) (fun a => h0 ?_)
        · refine xp_dh_trial hl hD hd hI.2.1 (fun hq => ?_) (fun hq => ?_)
          · refine br_f (by decide) ⟨vp_in_nI hl (by omega), nm_e (nm_r (nI_1 i) ?_)⟩
            have i2 := ih (i + 1) (by omega) (fun p hp hz => by
              by_cases q : p = i
              · subst q; rw [et]; exact ⟨a, hq⟩
              · exact hj p (by omega) hz)
            rw [pd_t, if_neg z, et] at i2
            exact i2
          · refine br_t rfl (h0 ?_)
            intro hs
            have := (hs i hi5 z).2
            rw [et] at this
            exact hq this
        · intro hs
          have := (hs i hi5 z).1
          rw [et] at this
          exact a this
  exact ⟨6, key 5 0 rfl (fun p hp => absurd hp (Nat.not_lt_zero _))⟩
theorem xp_mw_trial {post : Int32 → Prop} {w : Nat} (hw : fw = nI w) (hw4 : w ≤ 4) (hI : pd_I aD aT aW) (h : post (nI (pd_m (pd_w aH aW aG tA) w))) : wpX_metWishes__trial post (fw, fp, fl, fk, fc, fg, aV, aO, aP, aD, aN, aT, aR, aH, aW, aG, aL, aK, aU, aE, tA, tM, tB, tO, tS) := by
  have key : ∀ g i, i + g = w → wX_metWishes__trial_4 post fw fp fl fk fc fg aV aO aP aD aN aT aR aH aW aG aL aK aU aE tA tM tB tO tS (g + 1) (nI (pd_m (pd_w aH aW aG tA) i)) (nI i) := by
    intro g
    induction g with
    | zero =>
      intro i hi
      have e : i = w := by omega
      subst e
      rw [hw]
      exact br_t (nI_le (Nat.le_refl _) (by omega)) h
    | succ g ih =>
      intro i hi
      have hi4 : i < 4 := by omega
      obtain ⟨o, ho, eo⟩ := hI.2.2 i hi4
      refine br_f (by rw [hw]; exact nI_ge (by omega) (by omega)) ⟨vp_in_nI hi4 (by omega), ?_⟩
      rw [nI_clamp (n := i) (by omega)]
      refine ⟨by rw [eo]; exact vp_in_nI ho (by omega), vp_in_nI hi4 (by omega), xp_in ⟨vp_in_nI hi4 (by omega), ?_⟩⟩
      have i2 := ih (i + 1) (by omega)
      rw [pd_m] at i2
      refine br_c (fun c => ?_) (fun c => ?_)
      · rw [if_pos (show pd_w aH aW aG tA i = true from decide_eq_true c)] at i2
        refine nm_r ?_ (nm_r (nI_1 i) i2)
        rw [pd_shl1 (by omega), pd_or, pd_or2 (pd_mlt _ _)]
      · rw [if_neg (show ¬ pd_w aH aW aG tA i = true from fun q => c (of_decide_eq_true q))] at i2
        exact nm_r (nI_1 i) i2
  exact ⟨w + 1, key w 0 (by omega)⟩
theorem xp_sol_trial {post : Int32 → Prop} {w : Nat} (hw : fw = nI w) (hw4 : w ≤ 4) (hI : pd_I aD aT aW) (h9 : pd_9 tA) (h1 : pd_Q w aP aD aN aT aR aH aW aG tA → post 1) (h0 : ¬ pd_Q w aP aD aN aT aR aH aW aG tA → post 0) : wpX_isSolution__trial post (fw, fp, fl, fk, fc, fg, aV, aO, aP, aD, aN, aT, aR, aH, aW, aG, aL, aK, aU, aE, tA, tM, tB, tO, tS) := by
  have hm := pd_mlt (pd_w aH aW aG tA) w
  have h16 : 2 ^ w ≤ 2 ^ 4 := Nat.pow_le_pow_right (by decide) hw4
  have hp : 0 < 2 ^ w := Nat.two_pow_pos w
  have e : ((1 : Int32) <<< (fw &&& 31)) - 1 = nI (2 ^ w - 1) := by
    rw [hw, pd_shl1 (by omega)]
    exact pk_sub (b := 1) hp
  refine xp_mw_trial (post := fun r_1 => (((r_1 = (((1 : Int32) <<< (fw &&& 31)) - 1) → (wpX_isSound__trial (fun r_28 => (((r_28 = 0 → (post 0)) ∧ (¬ r_28 = 0 → (post 1))))) (fw, fp, fl, fk, fc, fg, aV, aO, aP, aD, aN, aT, aR, aH, aW, aG, aL, aK, aU, aE, tA, tM, tB, tO, tS))) ∧ (¬ r_1 = (((1 : Int32) <<< (fw &&& 31)) - 1) → (post 0))))) hw hw4 hI ?_
  rw [e]
  refine br_c (fun c => ?_) (fun c => h0 ?_)
  · rw [nI_eq (by omega) (by omega), pd_mall] at c
    exact xp_snd_trial hI h9 (fun s => br_f (by decide) (h1 ⟨c, s⟩)) (fun s => br_t rfl (h0 (fun q => s q.2)))
  · intro q
    rw [nI_eq (by omega) (by omega), pd_mall] at c
    exact c q.1
theorem xp_dh_lockedIn {post : Int32 → Prop} {e d : Nat} (he : e < 50) (hD : aD e = nI d) (hd : d ≤ 3) (hT : ∀ s, s < 150 → ∃ o, o < 5 ∧ aT s = nI o) (h1 : pd_D aD aN aT aR aK e → post 1) (h0 : ¬ pd_D aD aN aT aR aK e → post 0) : wpX_demandsHold__lockedIn post (fw, fp, fl, fk, fc, fg, aV, aO, aP, aD, aN, aT, aR, aH, aW, aG, aL, aK, aU, aE, tA, tM, tB, tO, tS) (nI e) := by
  have key : ∀ g i, i + g = d → (∀ j, j < i → pd_r (aK (aT (3 * e + j)).toNatClampNeg) (aR (3 * e + j)) = aN (3 * e + j)) → wX_demandsHold__lockedIn_2 post (nI e) fw fp fl fk fc fg aV aO aP aD aN aT aR aH aW aG aL aK aU aE tA tM tB tO tS (g + 1) (nI i) := by
    intro g
    induction g with
    | zero =>
      intro i hi hj
      refine ⟨vp_in_nI he (by omega), ?_⟩
      rw [nI_clamp (by omega), hD]
      refine br_t (nI_le (by omega) (by omega)) (h1 ?_)
      intro j hj'
      rw [hD, nI_clamp (by omega)] at hj'
      exact hj j (by omega)
    | succ g ih =>
      intro i hi hj
      have hk : 3 * e + i < 150 := by omega
      obtain ⟨o, ho, eo⟩ := hT (3 * e + i) hk
      refine ⟨vp_in_nI he (by omega), ?_⟩
      rw [nI_clamp (by omega), hD]
      refine br_f (nI_ge (by omega) (by omega)) (nm_r (e' := nI (3 * e + i)) (by rw [← nI_add, ← pk_mul]; rfl) ?_)
      rw [nI_clamp (n := 3 * e + i) (by omega)]
      refine ⟨vp_in_nI hk (by omega), by rw [eo]; exact vp_in_nI ho (by omega), vp_in_nI hk (by omega), xp_in ?_⟩
      refine ⟨vp_in_nI hk (by omega), br_c (fun c => nm_r (nI_1 i) (ih (i + 1) (by omega) ?_)) (fun c => h0 ?_)⟩
      · intro j hj'
        by_cases z : j = i
        · subst z; exact c
        · exact hj j (by omega)
      · intro hq
        exact c (hq i (by rw [hD, nI_clamp (by omega)]; omega))
  exact ⟨d + 1, key d 0 (by omega) (fun j hj => absurd hj (Nat.not_lt_zero _))⟩
theorem xp_snd_lockedIn {post : Int32 → Prop} (hI : pd_I aD aT aW) (h9 : pd_9 aK) (h1 : pd_S aP aD aN aT aR aK → post 1) (h0 : ¬ pd_S aP aD aN aT aR aK → post 0) : wpX_isSound__lockedIn post (fw, fp, fl, fk, fc, fg, aV, aO, aP, aD, aN, aT, aR, aH, aW, aG, aL, aK, aU, aE, tA, tM, tB, tO, tS) := by
  have key : ∀ g i, i + g = 5 → (∀ p, p < i → ¬ aK p = 0 → (pd_t aP aK p &&& aP (10 * p + (aK p).toNatClampNeg)) = 0 ∧ pd_D aD aN aT aR aK (10 * p + (aK p).toNatClampNeg)) → wX_isSound__lockedIn_4 post fw fp fl fk fc fg aV aO aP aD aN aT aR aH aW aG aL aK aU aE tA tM tB tO tS (g + 1) (pd_t aP aK i) (nI i) := by
    intro g
    induction g with
    | zero =>
      intro i hi hj
      refine br_t (nI_le (a := 5) (by omega) (by omega)) (h1 ?_)
      intro p hp
      exact hj p (by omega)
    | succ g ih =>
      intro i hi hj
      have hi5 : i < 5 := by omega
      obtain ⟨x, hx, ex⟩ := h9 i hi5
      have hl : 10 * i + x < 50 := by omega
      obtain ⟨d, hd, hD⟩ := hI.1 _ hl
      have et : (aK i).toNatClampNeg = x := by rw [ex, nI_clamp (by omega)]
      refine br_f (lt5' i hi5) ⟨vp_in_nI hi5 (by omega), ?_⟩
      rw [nI_clamp (n := i) (by omega)]
      refine br_c (fun z => nm_r (nI_1 i) ?_) (fun z => ⟨vp_in_nI hi5 (by omega), nm_r (e' := nI (10 * i + x)) (by rw [ex, ← nI_add, ← pk_mul]; rfl) ⟨vp_in_nI hl (by omega), ?_⟩⟩)
      · have i2 := ih (i + 1) (by omega) (fun p hp hz => by
          by_cases q : p = i
          · subst q; exact absurd z hz
          · exact hj p (by omega) hz)
        rw [pd_t, if_pos z] at i2
        exact i2
      · rw [nI_clamp (n := 10 * i + x) (by omega)]
        refine br_c (fun a => ?_) (fun a => h0 ?_)
        · refine xp_dh_lockedIn hl hD hd hI.2.1 (fun hq => ?_) (fun hq => ?_)
          · refine br_f (by decide) ⟨vp_in_nI hl (by omega), nm_e (nm_r (nI_1 i) ?_)⟩
            have i2 := ih (i + 1) (by omega) (fun p hp hz => by
              by_cases q : p = i
              · subst q; rw [et]; exact ⟨a, hq⟩
              · exact hj p (by omega) hz)
            rw [pd_t, if_neg z, et] at i2
            exact i2
          · refine br_t rfl (h0 ?_)
            intro hs
            have := (hs i hi5 z).2
            rw [et] at this
            exact hq this
        · intro hs
          have := (hs i hi5 z).1
          rw [et] at this
          exact a this
  exact ⟨6, key 5 0 rfl (fun p hp => absurd hp (Nat.not_lt_zero _))⟩
theorem xp_mw_lockedIn {post : Int32 → Prop} {w : Nat} (hw : fw = nI w) (hw4 : w ≤ 4) (hI : pd_I aD aT aW) (h : post (nI (pd_m (pd_w aH aW aG aK) w))) : wpX_metWishes__lockedIn post (fw, fp, fl, fk, fc, fg, aV, aO, aP, aD, aN, aT, aR, aH, aW, aG, aL, aK, aU, aE, tA, tM, tB, tO, tS) := by
  have key : ∀ g i, i + g = w → wX_metWishes__lockedIn_4 post fw fp fl fk fc fg aV aO aP aD aN aT aR aH aW aG aL aK aU aE tA tM tB tO tS (g + 1) (nI (pd_m (pd_w aH aW aG aK) i)) (nI i) := by
    intro g
    induction g with
    | zero =>
      intro i hi
      have e : i = w := by omega
      subst e
      rw [hw]
      exact br_t (nI_le (Nat.le_refl _) (by omega)) h
    | succ g ih =>
      intro i hi
      have hi4 : i < 4 := by omega
      obtain ⟨o, ho, eo⟩ := hI.2.2 i hi4
      refine br_f (by rw [hw]; exact nI_ge (by omega) (by omega)) ⟨vp_in_nI hi4 (by omega), ?_⟩
      rw [nI_clamp (n := i) (by omega)]
      refine ⟨by rw [eo]; exact vp_in_nI ho (by omega), vp_in_nI hi4 (by omega), xp_in ⟨vp_in_nI hi4 (by omega), ?_⟩⟩
      have i2 := ih (i + 1) (by omega)
      rw [pd_m] at i2
      refine br_c (fun c => ?_) (fun c => ?_)
      · rw [if_pos (show pd_w aH aW aG aK i = true from decide_eq_true c)] at i2
        refine nm_r ?_ (nm_r (nI_1 i) i2)
        rw [pd_shl1 (by omega), pd_or, pd_or2 (pd_mlt _ _)]
      · rw [if_neg (show ¬ pd_w aH aW aG aK i = true from fun q => c (of_decide_eq_true q))] at i2
        exact nm_r (nI_1 i) i2
  exact ⟨w + 1, key w 0 (by omega)⟩
theorem xp_sol_lockedIn {post : Int32 → Prop} {w : Nat} (hw : fw = nI w) (hw4 : w ≤ 4) (hI : pd_I aD aT aW) (h9 : pd_9 aK) (h1 : pd_Q w aP aD aN aT aR aH aW aG aK → post 1) (h0 : ¬ pd_Q w aP aD aN aT aR aH aW aG aK → post 0) : wpX_isSolution__lockedIn post (fw, fp, fl, fk, fc, fg, aV, aO, aP, aD, aN, aT, aR, aH, aW, aG, aL, aK, aU, aE, tA, tM, tB, tO, tS) := by
  have hm := pd_mlt (pd_w aH aW aG aK) w
  have h16 : 2 ^ w ≤ 2 ^ 4 := Nat.pow_le_pow_right (by decide) hw4
  have hp : 0 < 2 ^ w := Nat.two_pow_pos w
  have e : ((1 : Int32) <<< (fw &&& 31)) - 1 = nI (2 ^ w - 1) := by
    rw [hw, pd_shl1 (by omega)]
    exact pk_sub (b := 1) hp
  refine xp_mw_lockedIn (post := fun r_1 => (((r_1 = (((1 : Int32) <<< (fw &&& 31)) - 1) → (wpX_isSound__lockedIn (fun r_28 => (((r_28 = 0 → (post 0)) ∧ (¬ r_28 = 0 → (post 1))))) (fw, fp, fl, fk, fc, fg, aV, aO, aP, aD, aN, aT, aR, aH, aW, aG, aL, aK, aU, aE, tA, tM, tB, tO, tS))) ∧ (¬ r_1 = (((1 : Int32) <<< (fw &&& 31)) - 1) → (post 0))))) hw hw4 hI ?_
  rw [e]
  refine br_c (fun c => ?_) (fun c => h0 ?_)
  · rw [nI_eq (by omega) (by omega), pd_mall] at c
    exact xp_snd_lockedIn hI h9 (fun s => br_f (by decide) (h1 ⟨c, s⟩)) (fun s => br_t rfl (h0 (fun q => s q.2)))
  · intro q
    rw [nI_eq (by omega) (by omega), pd_mall] at c
    exact c q.1
end
end
section
/-! Y's walks: soundness, wishes, the list of versions, a choice by its number; X's walks: the next choice -/
variable {fw fp fl fk fc fg yN yO : Int32} {aV aO aP aD aN aT aR aH aW aG aL aK aU aE tA tM tB tO tS yA yM yC yR : Nat → Int32}
theorem yp_dh {post : Int32 → Prop} {q x e d : Nat} (hq : q < 5) (hx : yC q = nI x) (hx9 : x ≤ 9) (hxe : 10 * q + x = e) (hD : aD e = nI d) (hd : d ≤ 3) (hT : ∀ s, s < 150 → ∃ o, o < 5 ∧ aT s = nI o) (h1 : pd_D aD aN aT aR yC e → post 1) (h0 : ¬ pd_D aD aN aT aR yC e → post 0) : wpY_demandsHold post (fw, fp, fl, fk, yN, fg, yO, aO, aP, aD, aN, aT, aR, aH, aW, aG, yA, yM, yC, aL, aK, aU, aE, yR) (nI q) := by
  have he : e < 50 := by omega
  have key : ∀ g i, i + g = d → (∀ j, j < i → pd_r (yC (aT (3 * e + j)).toNatClampNeg) (aR (3 * e + j)) = aN (3 * e + j)) → wY_demandsHold_16 post (nI e) fw fp fl fk yN fg yO aO aP aD aN aT aR aH aW aG yA yM yC aL aK aU aE yR (g + 1) (nI (3 * e + i)) := by
    intro g
    induction g with
    | zero =>
      intro i hi hj
      refine ⟨vp_in_nI he (by omega), ?_⟩
      rw [nI_clamp (by omega), hD]
      have ee : (3 : Int32) * nI e + nI d = nI (3 * e + d) := by rw [← nI_add, ← pk_mul]; rfl
      rw [ee]
      refine br_t (nI_le (by omega) (by omega)) (h1 ?_)
      intro j hj'
      rw [hD, nI_clamp (by omega)] at hj'
      exact hj j (by omega)
    | succ g ih =>
      intro i hi hj
      have hk : 3 * e + i < 150 := by omega
      obtain ⟨o, ho, eo⟩ := hT (3 * e + i) hk
      refine ⟨vp_in_nI he (by omega), ?_⟩
      rw [nI_clamp (n := e) (by omega), hD]
      have ee : (3 : Int32) * nI e + nI d = nI (3 * e + d) := by rw [← nI_add, ← pk_mul]; rfl
      rw [ee]
      refine br_f (nI_ge (by omega) (by omega)) ?_
      rw [nI_clamp (n := 3 * e + i) (by omega)]
      refine ⟨vp_in_nI hk (by omega), by rw [eo]; exact vp_in_nI ho (by omega), vp_in_nI hk (by omega), yp_in ?_⟩
      refine ⟨vp_in_nI hk (by omega), br_c (fun c => nm_r (nI_1 _) (ih (i + 1) (by omega) ?_)) (fun c => h0 ?_)⟩
      · intro j hj'
        by_cases z : j = i
        · subst z; exact c
        · exact hj j (by omega)
      · intro hq
        exact c (hq i (by rw [hD, nI_clamp (by omega)]; omega))
  refine ⟨vp_in_nI hq (by omega), ?_⟩
  rw [nI_clamp (n := q) (by omega), hx]
  exact nm_r (e' := nI e) (by rw [← hxe, ← nI_add, ← pk_mul]; rfl) (nm_r (e' := nI (3 * e + 0)) (by rw [Nat.add_zero, ← pk_mul]; rfl) ⟨d + 1, key d 0 (by omega) (fun j hj => absurd hj (Nat.not_lt_zero _))⟩)
theorem yp_snd {post : Int32 → Prop} (hI : pd_I aD aT aW) (h9 : pd_9 yC) (h1 : pd_S aP aD aN aT aR yC → post 1) (h0 : ¬ pd_S aP aD aN aT aR yC → post 0) : wpY_isSound post (fw, fp, fl, fk, yN, fg, yO, aO, aP, aD, aN, aT, aR, aH, aW, aG, yA, yM, yC, aL, aK, aU, aE, yR) := by
  have key : ∀ g i, i + g = 5 → (∀ p, p < i → ¬ yC p = 0 → (pd_t aP yC p &&& aP (10 * p + (yC p).toNatClampNeg)) = 0 ∧ pd_D aD aN aT aR yC (10 * p + (yC p).toNatClampNeg)) → wY_isSound_4 post fw fp fl fk yN fg yO aO aP aD aN aT aR aH aW aG yA yM yC aL aK aU aE yR (g + 1) (pd_t aP yC i) (nI i) := by
    intro g
    induction g with
    | zero =>
      intro i hi hj
      refine br_t (nI_le (a := 5) (by omega) (by omega)) (h1 ?_)
      intro p hp
      exact hj p (by omega)
    | succ g ih =>
      intro i hi hj
      have hi5 : i < 5 := by omega
      obtain ⟨x, hx, ex⟩ := h9 i hi5
      have hl : 10 * i + x < 50 := by omega
      obtain ⟨d, hd, hD⟩ := hI.1 _ hl
      have et : (yC i).toNatClampNeg = x := by rw [ex, nI_clamp (by omega)]
      have ee : (10 : Int32) * nI i + nI x = nI (10 * i + x) := by rw [← nI_add, ← pk_mul]; rfl
      refine br_f (lt5' i hi5) ⟨vp_in_nI hi5 (by omega), ?_⟩
      rw [nI_clamp (n := i) (by omega), ex, ee]
      refine pk_le x 0 (fun z => nm_r (nI_1 i) ?_) (fun z => ⟨vp_in_nI hi5 (by omega), vp_in_nI hl (by omega), ?_⟩) rfl rfl (by omega) (by omega)
      · have z0 : yC i = 0 := by rw [ex, show x = 0 by omega]; rfl
        have i2 := ih (i + 1) (by omega) (fun p hp hz => by
          by_cases q : p = i
          · subst q; exact absurd z0 hz
          · exact hj p (by omega) hz)
        rw [pd_t, if_pos z0] at i2
        exact i2
      · have z0 : ¬ yC i = 0 := by rw [ex]; exact nI_ne0 (by omega) (by omega)
        rw [nI_clamp (n := 10 * i + x) (by omega)]
        refine nm_e (br_c (fun a => ?_) (fun a => h0 ?_))
        · refine yp_dh hi5 ex hx rfl hD hd hI.2.1 (fun hq => ?_) (fun hq => ?_)
          · refine br_f (by decide) (nm_e (nm_r (nI_1 i) ?_))
            have i2 := ih (i + 1) (by omega) (fun p hp hz => by
              by_cases q : p = i
              · subst q; rw [et]; exact ⟨a, hq⟩
              · exact hj p (by omega) hz)
            rw [pd_t, if_neg z0, et] at i2
            exact i2
          · refine br_t rfl (h0 ?_)
            intro hs
            have := (hs i hi5 z0).2
            rw [et] at this
            exact hq this
        · intro hs
          have := (hs i hi5 z0).1
          rw [et] at this
          exact a this
  exact ⟨6, key 5 0 rfl (fun p hp => absurd hp (Nat.not_lt_zero _))⟩
theorem yp_meets {post : Int32 → Prop} {w : Nat} {x : Int32} (hw : fw = nI w) (hw4 : w ≤ 4) (hI : pd_I aD aT aW) (h1 : (∀ i, i < w → bt x i = true → pd_w aH aW aG yC i = true) → post 1) (h0 : ¬ (∀ i, i < w → bt x i = true → pd_w aH aW aG yC i = true) → post 0) : wpY_meets post (fw, fp, fl, fk, yN, fg, yO, aO, aP, aD, aN, aT, aR, aH, aW, aG, yA, yM, yC, aL, aK, aU, aE, yR) x := by
  have key : ∀ g i, i + g = w → (∀ j, j < i → bt x j = true → pd_w aH aW aG yC j = true) → wY_meets_2 post x fw fp fl fk yN fg yO aO aP aD aN aT aR aH aW aG yA yM yC aL aK aU aE yR (g + 1) (nI i) := by
    intro g
    induction g with
    | zero =>
      intro i hi hj
      refine br_t (by rw [hw]; exact nI_le (by omega) (by omega)) (h1 ?_)
      intro j hj'
      exact hj j (by omega)
    | succ g ih =>
      intro i hi hj
      have hi4 : i < 4 := by omega
      obtain ⟨o, ho, eo⟩ := hI.2.2 i hi4
      refine br_f (by rw [hw]; exact nI_ge (by omega) (by omega)) ?_
      rw [pd_bit1 x (show i < 31 by omega), nI_clamp (n := i) (by omega)]
      refine br_c (fun b => ⟨vp_in_nI hi4 (by omega), by rw [eo]; exact vp_in_nI ho (by omega), vp_in_nI hi4 (by omega), yp_in ⟨vp_in_nI hi4 (by omega), br_c (fun c => nm_r (nI_1 i) (ih (i + 1) (by omega) ?_)) (fun c => h0 ?_)⟩⟩) (fun b => nm_r (nI_1 i) (ih (i + 1) (by omega) ?_))
      · intro j hj' hb
        by_cases z : j = i
        · subst z; exact decide_eq_true c
        · exact hj j (by omega) hb
      · intro q
        exact c (of_decide_eq_true (q i (by omega) b))
      · intro j hj' hb
        by_cases z : j = i
        · subst z; exact absurd hb b
        · exact hj j (by omega) hb
  exact ⟨w + 1, key w 0 (by omega) (fun j hj => absurd hj (Nat.not_lt_zero _))⟩
theorem pd_15 : ∀ i, i < 4 → bt 15 i = true := by decide +kernel
theorem yp_sol {post : Int32 → Prop} {w : Nat} (hw : fw = nI w) (hw4 : w ≤ 4) (hI : pd_I aD aT aW) (h9 : pd_9 yC) (h1 : pd_Q w aP aD aN aT aR aH aW aG yC → post 1) (h0 : ¬ pd_Q w aP aD aN aT aR aH aW aG yC → post 0) : wpY_isSolution post (fw, fp, fl, fk, yN, fg, yO, aO, aP, aD, aN, aT, aR, aH, aW, aG, yA, yM, yC, aL, aK, aU, aE, yR) := by
  unfold wpY_isSolution
  refine yp_snd hI h9 (fun s => br_f (by decide) ?_) (fun s => br_t rfl (h0 (fun q => s q.2)))
  refine yp_meets hw hw4 hI (fun m => br_f (by decide) (h1 ⟨fun i hi => m i hi (pd_15 i (by omega)), s⟩)) (fun m => br_t rfl (h0 (fun q => m (fun i hi _ => q.1 i hi))))
theorem xp_nv {post : Int32 → Prop} {p v : Nat} (hp : p < 5) (hv : v ≤ 9) (h : post (nI (pd_nv (pd_h aO p) (if v = 0 then 9 else v - 1)))) : wpX_nextVersion post (fw, fp, fl, fk, fc, fg, aV, aO, aP, aD, aN, aT, aR, aH, aW, aG, aL, aK, aU, aE, tA, tM, tB, tO, tS) (nI p) (nI v) := by
  have key : ∀ s, s ≤ 9 → post (nI (pd_nv (pd_h aO p) s)) → wX_nextVersion_16 post (nI p) fw fp fl fk fc fg aV aO aP aD aN aT aR aH aW aG aL aK aU aE tA tM tB tO tS (s + 1) (nI s) := by
    intro s
    induction s with
    | zero =>
      intro _ h
      exact br_t (nI_lt (a := 0) (b := 1) (by omega) (by omega)) h
    | succ s ih =>
      intro hs h
      have hl : 10 * p + (s + 1) < 50 := by omega
      have ee : (10 : Int32) * nI p + nI (s + 1) = nI (10 * p + (s + 1)) := pd_l10 p (s + 1)
      refine br_f (nI_nlt (b := 1) (by omega) (by omega)) ?_
      rw [ee, nI_clamp (n := 10 * p + (s + 1)) (by omega)]
      refine ⟨vp_in_nI hl (by omega), br_c (fun z => nm_r (pk_m1 s) (ih (by omega) ?_)) (fun z => ?_)⟩
      · rw [pd_nv, pd_h0 z] at h
        exact h
      · rw [pd_nv, pd_h1 z] at h
        exact h
  refine pk_eq v 0 (fun z => ?_) (fun z => ?_) rfl rfl (by omega) (by omega)
  · rw [if_pos z] at h
    exact ⟨10, key 9 (by omega) h⟩
  · rw [if_neg z] at h
    exact nm_r (e' := nI (v - 1)) (pk_sub (b := 1) (by omega)) ⟨v - 1 + 1, key (v - 1) (by omega) h⟩
theorem pd_rkN {aO : Nat → Int32} {n n' : Nat} : ∀ k j, pd_rk aO n' k = pd_rk aO n k → pd_rk aO n' (k + j) = pd_rk aO n (k + j) := by
  intro k j h
  induction j with
  | zero => exact h
  | succ j ih => rw [← Nat.add_assoc, pd_rk, pd_rk, ih]
theorem xp_nt {post : SX → Prop} {n : Nat} (hc : ∀ p, p < 5 → tA p = pd_ci aO n p) (h : ∀ t, (∀ p, p < 5 → t p = pd_ci aO (n + 1) p) → post (fw, fp, fl, fk, fc, fg, aV, aO, aP, aD, aN, aT, aR, aH, aW, aG, aL, aK, aU, aE, t, tM, tB, tO, tS)) : wpX_nextTrial post (fw, fp, fl, fk, fc, fg, aV, aO, aP, aD, aN, aT, aR, aH, aW, aG, aL, aK, aU, aE, tA, tM, tB, tO, tS) := by
  have key : ∀ p, p < 5 → ∀ t : Nat → Int32, (∀ q, q ≤ p → t q = pd_ci aO n q) → (∀ q, p < q → q < 5 → t q = pd_ci aO (n + 1) q) → pd_rk aO (n + 1) (4 - p) = pd_rk aO n (4 - p) + 1 → wX_nextTrial_2 post fw fp fl fk fc fg (p + 2) (nI p) aV aO aP aD aN aT aR aH aW aG aL aK aU aE t tM tB tO tS := by
    intro p
    induction p with
    | zero =>
      intro hp t h1 h2 h3
      have hd : pd_rk aO n (4 - 0) % pd_M aO 0 < pd_M aO 0 := Nat.mod_lt _ (pd_Mpos aO 0)
      have et : t 0 = nI (pd_o aO 0 (pd_rk aO n (4 - 0) % pd_M aO 0)) := h1 0 (Nat.le_refl _)
      refine br_f (nI_pos (by omega)) ⟨vp_in_nI hp (by omega), ?_⟩
      rw [nI_clamp (n := 0) (by omega), et]
      refine xp_nv hp (pd_o9 hd) ⟨vp_in_nI hp (by omega), nm_e ⟨vp_in_nI hp (by omega), ?_⟩⟩
      have ev : pd_nv (pd_h aO 0) (if pd_o aO 0 (pd_rk aO n (4 - 0) % pd_M aO 0) = 0 then 9 else pd_o aO 0 (pd_rk aO n (4 - 0) % pd_M aO 0) - 1) = pd_c aO (n + 1) 0 := by
        rw [pd_next hd, ← pd_succmod, ← h3]; rfl
      rw [ev, pk_us]
      have fin : ∀ q, q < 5 → upd t 0 (nI (pd_c aO (n + 1) 0)) q = pd_ci aO (n + 1) q := by
        intro q hq
        by_cases z : q = 0
        · subst z; rw [pk_us]; rfl
        · rw [pk_un z]; exact h2 q (by omega) hq
      refine br_c (fun z => nm_r (e' := -1) (by decide) (br_t (by decide) (h _ fin))) (fun z => h _ fin)
    | succ p ih =>
      intro hp t h1 h2 h3
      have hM := pd_Mpos aO (p + 1)
      have hd : pd_rk aO n (4 - (p + 1)) % pd_M aO (p + 1) < pd_M aO (p + 1) := Nat.mod_lt _ hM
      have et : t (p + 1) = nI (pd_o aO (p + 1) (pd_rk aO n (4 - (p + 1)) % pd_M aO (p + 1))) := h1 (p + 1) (Nat.le_refl _)
      refine br_f (nI_pos (by omega)) ⟨vp_in_nI hp (by omega), ?_⟩
      rw [nI_clamp (n := p + 1) (by omega), et]
      refine xp_nv hp (pd_o9 hd) ⟨vp_in_nI hp (by omega), nm_e ⟨vp_in_nI hp (by omega), ?_⟩⟩
      have ev : pd_nv (pd_h aO (p + 1)) (if pd_o aO (p + 1) (pd_rk aO n (4 - (p + 1)) % pd_M aO (p + 1)) = 0 then 9 else pd_o aO (p + 1) (pd_rk aO n (4 - (p + 1)) % pd_M aO (p + 1)) - 1) = pd_c aO (n + 1) (p + 1) := by
        rw [pd_next hd, ← pd_succmod, ← h3]; rfl
      have e4 : 4 - p = (4 - (p + 1)) + 1 := by omega
      have e5 : 4 - (4 - (p + 1)) = p + 1 := by omega
      have er : ∀ m, pd_rk aO m (4 - p) = pd_rk aO m (4 - (p + 1)) / pd_M aO (p + 1) := by
        intro m
        rw [e4, pd_rk, e5]
      have hd2 : pd_rk aO (n + 1) (4 - (p + 1)) % pd_M aO (p + 1) < pd_M aO (p + 1) := Nat.mod_lt _ hM
      rw [ev, pk_us]
      have up : ∀ q, q ≠ p + 1 → upd t (p + 1) (nI (pd_c aO (n + 1) (p + 1))) q = t q := fun q hq => pk_un hq
      have us : upd t (p + 1) (nI (pd_c aO (n + 1) (p + 1))) (p + 1) = pd_ci aO (n + 1) (p + 1) := pk_us
      refine br_c (fun z => nm_r (pk_m1 p) (ih (by omega) _ ?_ ?_ ?_)) (fun z => h _ ?_)
      · intro q hq
        rw [up q (by omega)]
        exact h1 q (by omega)
      · intro q hq hq5
        by_cases y : q = p + 1
        · subst y; exact us
        · rw [up q y]; exact h2 q (by omega) hq5
      · have z2 : pd_c aO (n + 1) (p + 1) = 0 := by
          have := pd_c9 aO (n + 1) (p + 1)
          exact (nI_eq (by omega) (by omega)).mp z
        have z3 : pd_rk aO (n + 1) (4 - (p + 1)) % pd_M aO (p + 1) = 0 := by
          rcases pd_o_cases hd2 with ⟨a, _⟩ | ⟨_, b, _⟩
          · exact a
          · unfold pd_c at z2; omega
        rw [er, er, h3, pd_succdiv hM, if_pos (by rw [← h3]; exact z3)]
      · have z3 : ¬ pd_rk aO (n + 1) (4 - (p + 1)) % pd_M aO (p + 1) = 0 := by
          intro y
          apply z
          show nI (pd_o aO (p + 1) (pd_rk aO (n + 1) (4 - (p + 1)) % pd_M aO (p + 1))) = 0
          rw [y]; rfl
        have e6 : pd_rk aO (n + 1) (4 - p) = pd_rk aO n (4 - p) := by
          rw [er, er, h3, pd_succdiv hM, if_neg (by rw [← h3]; exact z3)]
        intro q hq5
        by_cases y : q = p + 1
        · subst y; exact us
        · rw [up q y]
          by_cases y2 : q ≤ p
          · rw [h1 q (by omega)]
            unfold pd_ci pd_c
            have := pd_rkN (4 - p) (p - q) e6
            rw [show 4 - p + (p - q) = 4 - q by omega] at this
            rw [this]
          · exact h2 q (by omega) hq5
  exact ⟨6, key 4 (by omega) tA (fun q hq => hc q (by omega)) (fun q a b => by omega) rfl⟩
end
section
/-! Y's list and take; counting the choices; copies and sizes -/
variable {fw fp fl fk fc fg yN yO : Int32} {aV aO aP aD aN aT aR aH aW aG aL aK aU aE tA tM tB tO tS yA yM yC yR : Nat → Int32}
/-- what list leaves behind -/
def pd_Op (aO yA yM : Nat → Int32) : Prop := (∀ p, p < 5 → yM p = nI (pd_M aO p)) ∧ (∀ p d, p < 5 → d < pd_M aO p → yA (5 * p + d) = nI (pd_o aO p d))
def pd_4 (aO : Nat → Int32) : Prop := ∀ p, p < 5 → (pd_L aO p).length ≤ 4
theorem pd_M5 {aO : Nat → Int32} (h4 : pd_4 aO) {p : Nat} (hp : p < 5) : pd_M aO p ≤ 5 := Nat.succ_le_succ (h4 p hp)
theorem pd_getD_app {A B : List Nat} {d : Nat} (h : d < A.length) : (A ++ B).getD d 0 = A.getD d 0 := by
  rw [List.getD_eq_getElem?_getD, List.getD_eq_getElem?_getD, List.getElem?_append_left h]
theorem pd_getD_mid {A B : List Nat} {x : Nat} : (A ++ x :: B).getD A.length 0 = x := by
  rw [List.getD_eq_getElem?_getD, List.getElem?_append_right (Nat.le_refl _), Nat.sub_self]
  rfl
theorem yp_listI {post : SY → Prop} {J : Int32 → (Nat → Int32) → (Nat → Int32) → (Nat → Int32) → (Nat → Int32) → (Nat → Int32) → (Nat → Int32) → (Nat → Int32) → (Nat → Int32) → (Nat → Int32) → (Nat → Int32) → (Nat → Int32) → (Nat → Int32) → (Nat → Int32) → (Nat → Int32) → (Nat → Int32) → (Nat → Int32) → (Nat → Int32) → Prop} {q : Nat} (hq : q < 5) (h4 : pd_4 aO)
    (hJ : ∀ a m, (∀ p, p < q + 1 → m p = nI (pd_M aO p)) → (∀ p d, p < q + 1 → d < pd_M aO p → a (5 * p + d) = nI (pd_o aO p d)) → J (nI (q + 1)) aO aP aD aN aT aR aH aW aG a m yC aL aK aU aE yR) :
    ∀ s, s ≤ 9 → ∀ (A : List Nat) (a m : Nat → Int32), pd_L aO q = A ++ pd_ds (pd_h aO q) s → m q = nI (A.length + 1) →
      (∀ p, p < q → m p = nI (pd_M aO p)) → (∀ p d, p < q → d < pd_M aO p → a (5 * p + d) = nI (pd_o aO p d)) →
      a (5 * q) = 0 → (∀ d, d < A.length → a (5 * q + (d + 1)) = nI (A.getD d 0)) →
      wY_list_26 post J (nI q) fw fp fl fk yN fg yO (s + 1) (nI s) aO aP aD aN aT aR aH aW aG a m yC aL aK aU aE yR := by
  intro s
  induction s with
  | zero =>
    intro _ A a m hL hm h1 h2 h3 h5
    have eL : pd_L aO q = A := by rw [hL]; exact List.append_nil A
    refine br_t (nI_le (a := 0) (b := 0) (by omega) (by omega)) (nm_r (nI_1 q) (hJ a m ?_ ?_))
    · intro p hp
      by_cases z : p = q
      · subst z; rw [hm]; unfold pd_M; rw [eL]
      · exact h1 p (by omega)
    · intro p d hp hd
      by_cases z : p = q
      · subst z
        cases d with
        | zero => rw [Nat.add_zero, h3]; rfl
        | succ d =>
          rw [h5 d (by unfold pd_M at hd; rw [eL] at hd; omega)]
          unfold pd_o
          rw [List.getD_cons_succ, eL]
      · exact h2 p d (by omega) hd
  | succ s ih =>
    intro hs A a m hL hm h1 h2 h3 h5
    have hl : 10 * q + (s + 1) < 50 := by omega
    refine br_f (nI_nle (by omega) (by omega)) ?_
    rw [pd_l10, nI_clamp (n := 10 * q + (s + 1)) (by omega), nI_clamp (n := q) (by omega), hm, pd_l5]
    refine ⟨vp_in_nI hl (by omega), br_c (fun z => nm_r (pk_m1 s) (ih (by omega) A a m ?_ hm h1 h2 h3 h5)) (fun z => ?_)⟩
    · rw [hL, pd_dsN (pd_h0 z)]
    · have hL' : pd_L aO q = (A ++ [s + 1]) ++ pd_ds (pd_h aO q) s := by
        rw [hL, pd_dsP (pd_h1 z), List.append_assoc]; rfl
      have hlen : A.length + 1 ≤ 4 := by
        have := h4 q hq
        rw [hL', List.length_append, List.length_append] at this
        have e1 : [s + 1].length = 1 := rfl
        omega
      have hi : 5 * q + (A.length + 1) < 25 := by omega
      rw [nI_clamp (n := 5 * q + (A.length + 1)) (by omega)]
      refine ⟨vp_in_nI hq (by omega), vp_in_nI hi (by omega), nm_e ⟨vp_in_nI hq (by omega), vp_in_nI hq (by omega), nm_e (nm_r (pk_m1 s) (ih (by omega) (A ++ [s + 1]) _ _ hL' ?_ ?_ ?_ ?_ ?_))⟩⟩
      · rw [pk_us, nI_1, List.length_append]; rfl
      · intro p hp
        rw [pk_un (by omega)]
        exact h1 p hp
      · intro p d hp hd
        have := pd_M5 h4 (show p < 5 by omega)
        rw [pk_un (by omega)]
        exact h2 p d hp hd
      · rw [pk_un (by omega)]
        exact h3
      · intro d hd
        rw [List.length_append] at hd
        have e1 : [s + 1].length = 1 := rfl
        by_cases y : d = A.length
        · subst y
          rw [pk_us, pd_getD_mid]
        · rw [pk_un (by omega), pd_getD_app (by omega)]
          exact h5 d (by omega)
theorem yp_list {post : SY → Prop} (h4 : pd_4 aO) (h : ∀ a m, pd_Op aO a m → post (fw, fp, fl, fk, yN, fg, yO, aO, aP, aD, aN, aT, aR, aH, aW, aG, a, m, yC, aL, aK, aU, aE, yR)) : wpY_list post (fw, fp, fl, fk, yN, fg, yO, aO, aP, aD, aN, aT, aR, aH, aW, aG, yA, yM, yC, aL, aK, aU, aE, yR) := by
  have key : ∀ g q, q + g = 5 → ∀ a m : Nat → Int32, (∀ p, p < q → m p = nI (pd_M aO p)) → (∀ p d, p < q → d < pd_M aO p → a (5 * p + d) = nI (pd_o aO p d)) → wY_list_2 post fw fp fl fk yN fg yO (g + 1) (nI q) aO aP aD aN aT aR aH aW aG a m yC aL aK aU aE yR := by
    intro g
    induction g with
    | zero =>
      intro q hq a m h1 h2
      have e : q = 5 := by omega
      subst e
      exact br_t (by decide) (h a m ⟨h1, h2⟩)
    | succ g ih =>
      intro q hq a m h1 h2
      have hq5 : q < 5 := by omega
      have e5 : (5 : Int32) * nI q = nI (5 * q) := pk_mul 5 q
      refine br_f (lt5' q hq5) ?_
      rw [e5, nI_clamp (n := 5 * q) (by omega), nI_clamp (n := q) (by omega)]
      refine ⟨vp_in_nI (by omega) (by omega), nm_e ⟨vp_in_nI hq5 (by omega), nm_e ⟨10, ?_⟩⟩⟩
      refine yp_listI hq5 h4 (fun a' m' h1' h2' => ih (q + 1) (by omega) a' m' h1' h2') 9 (by omega) [] _ _ rfl pk_us ?_ ?_ pk_us ?_
      · intro p hp
        rw [pk_un (by omega)]
        exact h1 p hp
      · intro p d hp hd
        have := pd_M5 h4 (show p < 5 by omega)
        rw [pk_un (by omega)]
        exact h2 p d hp hd
      · intro d hd
        exact absurd hd (Nat.not_lt_zero _)
  exact ⟨6, key 5 0 rfl yA yM (fun p hp => absurd hp (Nat.not_lt_zero _)) (fun p d hp => absurd hp (Nat.not_lt_zero _))⟩
theorem pd_rkle (aO : Nat → Int32) (n : Nat) : ∀ k, pd_rk aO n k ≤ n := by
  intro k
  induction k with
  | zero => exact Nat.le_refl _
  | succ k ih => exact Nat.le_trans (Nat.div_le_self _ _) ih
theorem yp_take {post : SY → Prop} {n : Nat} (hn : n < 2 ^ 31) (h4 : pd_4 aO) (hO : pd_Op aO yA yM) (h : ∀ c, (∀ p, p < 5 → c p = pd_ci aO n p) → post (fw, fp, fl, fk, yN, fg, yO, aO, aP, aD, aN, aT, aR, aH, aW, aG, yA, yM, c, aL, aK, aU, aE, yR)) : wpY_take post (fw, fp, fl, fk, yN, fg, yO, aO, aP, aD, aN, aT, aR, aH, aW, aG, yA, yM, yC, aL, aK, aU, aE, yR) (nI n) := by
  have key : ∀ p, p < 5 → ∀ c : Nat → Int32, (∀ q, p < q → q < 5 → c q = pd_ci aO n q) → wY_take_4 post fw fp fl fk yN fg yO (p + 2) (nI (pd_rk aO n (4 - p))) (nI p) aO aP aD aN aT aR aH aW aG yA yM c aL aK aU aE yR := by
    intro p
    induction p with
    | zero =>
      intro hp c h1
      have hr := pd_rkle aO n (4 - 0)
      have hM := pd_Mpos aO 0
      have hM5 := pd_M5 h4 hp
      have hd : pd_rk aO n (4 - 0) % pd_M aO 0 < pd_M aO 0 := Nat.mod_lt _ hM
      refine br_f (nI_pos (by omega)) ⟨vp_in_nI hp (by omega), ?_⟩
      rw [nI_clamp (n := 0) (by omega), hO.1 0 hp]
      refine br_t (nI_le (a := 1) hM (by omega)) ⟨vp_in_nI hp (by omega), nI_ne0 hM (by omega), ?_⟩
      rw [pk_rem (by omega) hM (by omega), pd_l5, nI_clamp (n := 5 * 0 + _) (by omega), hO.2 0 _ hp hd, nI_clamp (n := 0) (by omega)]
      refine ⟨vp_in_nI (by omega) (by omega), vp_in_nI hp (by omega), nm_e ⟨nI_ne0 hM (by omega), nm_e (nm_r (e' := -1) (by decide) (br_t (by decide) (h _ ?_)))⟩⟩
      intro q hq
      by_cases z : q = 0
      · subst z; exact pk_us
      · rw [pk_un z]; exact h1 q (by omega) hq
    | succ p ih =>
      intro hp c h1
      have hr := pd_rkle aO n (4 - (p + 1))
      have hM := pd_Mpos aO (p + 1)
      have hM5 := pd_M5 h4 hp
      have hd : pd_rk aO n (4 - (p + 1)) % pd_M aO (p + 1) < pd_M aO (p + 1) := Nat.mod_lt _ hM
      have e4 : 4 - p = (4 - (p + 1)) + 1 := by omega
      have e5 : 4 - (4 - (p + 1)) = p + 1 := by omega
      have er : pd_rk aO n (4 - p) = pd_rk aO n (4 - (p + 1)) / pd_M aO (p + 1) := by rw [e4, pd_rk, e5]
      refine br_f (nI_pos (by omega)) ⟨vp_in_nI hp (by omega), ?_⟩
      rw [nI_clamp (n := p + 1) (by omega), hO.1 (p + 1) hp]
      refine br_t (nI_le (a := 1) hM (by omega)) ⟨vp_in_nI hp (by omega), nI_ne0 hM (by omega), ?_⟩
      rw [pk_rem (by omega) hM (by omega), pd_l5, nI_clamp (n := 5 * (p + 1) + _) (by omega), hO.2 (p + 1) _ hp hd, nI_clamp (n := p + 1) (by omega)]
      refine ⟨vp_in_nI (by omega) (by omega), vp_in_nI hp (by omega), nm_e ⟨nI_ne0 hM (by omega), nm_r (e' := nI (pd_rk aO n (4 - p))) (by rw [pk_div (by omega) hM (by omega), er]) (nm_r (pk_m1 p) (ih (by omega) _ ?_))⟩⟩
      intro q hq hq5
      by_cases z : q = p + 1
      · subst z; exact pk_us
      · rw [pk_un z]; exact h1 q (by omega) hq5
  exact ⟨6, key 4 (by omega) yC (fun q a b => by omega)⟩
def pd_P (aO : Nat → Int32) : Nat → Nat
  | 0 => 1
  | i + 1 => pd_P aO i * pd_M aO i
theorem pd_PT (aO : Nat → Int32) : pd_P aO 5 = pd_T aO := by
  simp only [pd_P, pd_T, Nat.one_mul]
theorem pd_T3125 {aO : Nat → Int32} (h4 : pd_4 aO) : pd_T aO ≤ 3125 := by
  have a := pd_M5 h4 (show 0 < 5 by omega)
  have b := pd_M5 h4 (show 1 < 5 by omega)
  have c := pd_M5 h4 (show 2 < 5 by omega)
  have d := pd_M5 h4 (show 3 < 5 by omega)
  have e := pd_M5 h4 (show 4 < 5 by omega)
  exact Nat.mul_le_mul (Nat.mul_le_mul (Nat.mul_le_mul (Nat.mul_le_mul a b) c) d) e
theorem pd_Tpos (aO : Nat → Int32) : 0 < pd_T aO :=
  Nat.mul_pos (Nat.mul_pos (Nat.mul_pos (Nat.mul_pos (pd_Mpos _ _) (pd_Mpos _ _)) (pd_Mpos _ _)) (pd_Mpos _ _)) (pd_Mpos _ _)
def pd_V (aV aO : Nat → Int32) : Prop := ∀ p, p < 5 → aV p = nI (pd_L aO p).length
theorem xp_cc {post : Int32 → Prop} (hV : pd_V aV aO) (h : post (nI (pd_T aO))) : wpX_countChoices post (fw, fp, fl, fk, fc, fg, aV, aO, aP, aD, aN, aT, aR, aH, aW, aG, aL, aK, aU, aE, tA, tM, tB, tO, tS) := by
  have key : ∀ g i, i + g = 5 → wX_countChoices_4 post fw fp fl fk fc fg aV aO aP aD aN aT aR aH aW aG aL aK aU aE tA tM tB tO tS (g + 1) (nI (pd_P aO i)) (nI i) := by
    intro g
    induction g with
    | zero =>
      intro i hi
      have e : i = 5 := by omega
      subst e
      rw [pd_PT]
      exact br_t (by decide) h
    | succ g ih =>
      intro i hi
      have hi5 : i < 5 := by omega
      refine br_f (lt5' i hi5) ⟨vp_in_nI hi5 (by omega), ?_⟩
      rw [nI_clamp (n := i) (by omega), hV i hi5, nI_1, pk_mul]
      exact nm_e (nm_r (nI_1 i) (ih (i + 1) (by omega)))
  exact ⟨6, key 5 0 rfl⟩
theorem yp_cs {post : Int32 → Prop} (hO : pd_Op aO yA yM) (h : post (nI (pd_T aO))) : wpY_choices post (fw, fp, fl, fk, yN, fg, yO, aO, aP, aD, aN, aT, aR, aH, aW, aG, yA, yM, yC, aL, aK, aU, aE, yR) := by
  unfold wpY_choices
  dsimp only
  rw [hO.1 0 (by omega), hO.1 1 (by omega), hO.1 2 (by omega), hO.1 3 (by omega), hO.1 4 (by omega), pk_mul, pk_mul, pk_mul, pk_mul]
  exact h
theorem pd_ci0 (aO : Nat → Int32) (p : Nat) : pd_ci aO 0 p = 0 := by
  have e : ∀ k, pd_rk aO 0 k = 0 := fun k => Nat.le_zero.mp (pd_rkle aO 0 k)
  unfold pd_ci pd_c
  rw [e, Nat.zero_mod]
  rfl
theorem xp_st {post : SX → Prop} (h : ∀ t, (∀ p, p < 5 → t p = pd_ci aO 0 p) → post (fw, fp, fl, fk, fc, fg, aV, aO, aP, aD, aN, aT, aR, aH, aW, aG, aL, aK, aU, aE, t, tM, tB, tO, tS)) : wpX_startTrial post (fw, fp, fl, fk, fc, fg, aV, aO, aP, aD, aN, aT, aR, aH, aW, aG, aL, aK, aU, aE, tA, tM, tB, tO, tS) := by
  have key : ∀ g i, i + g = 5 → ∀ t : Nat → Int32, (∀ p, p < i → t p = pd_ci aO 0 p) → wX_startTrial_2 post fw fp fl fk fc fg (g + 1) (nI i) aV aO aP aD aN aT aR aH aW aG aL aK aU aE t tM tB tO tS := by
    intro g
    induction g with
    | zero =>
      intro i hi t ht
      have e : i = 5 := by omega
      subst e
      exact br_t (by decide) (h t ht)
    | succ g ih =>
      intro i hi t ht
      have hi5 : i < 5 := by omega
      refine br_f (lt5' i hi5) ⟨vp_in_nI hi5 (by omega), ?_⟩
      rw [nI_clamp (n := i) (by omega)]
      refine nm_e (nm_r (nI_1 i) (ih (i + 1) (by omega) _ ?_))
      intro p hp
      by_cases z : p = i
      · subst z; rw [pk_us, pd_ci0]
      · rw [pk_un z]; exact ht p (by omega)
  exact ⟨6, key 5 0 rfl tA (fun p hp => absurd hp (Nat.not_lt_zero _))⟩
theorem xp_cp_trial_planned {post : SX → Prop} (h : post (fw, fp, fl, fk, fc, fg, aV, aO, aP, aD, aN, aT, aR, aH, aW, aG, pd_cp aL tA 5, aK, aU, aE, tA, tM, tB, tO, tS)) : wpX_copyChoice__trial_planned post (fw, fp, fl, fk, fc, fg, aV, aO, aP, aD, aN, aT, aR, aH, aW, aG, aL, aK, aU, aE, tA, tM, tB, tO, tS) := by
  have key : ∀ g i, i + g = 5 → wX_copyChoice__trial_planned_2 post fw fp fl fk fc fg (g + 1) (nI i) aV aO aP aD aN aT aR aH aW aG (pd_cp aL tA i) aK aU aE tA tM tB tO tS := by
    intro g
    induction g with
    | zero =>
      intro i hi
      have e : i = 5 := by omega
      subst e
      exact br_t (by decide) h
    | succ g ih =>
      intro i hi
      have hi5 : i < 5 := by omega
      refine br_f (lt5' i hi5) ⟨vp_in_nI hi5 (by omega), vp_in_nI hi5 (by omega), ?_⟩
      rw [nI_clamp (n := i) (by omega), pd_cps]
      exact nm_e (nm_r (nI_1 i) (ih (i + 1) (by omega)))
  have k0 := key 5 0 rfl
  rw [pd_cp0] at k0
  exact ⟨6, k0⟩
theorem xp_cp_planned_lockedIn {post : SX → Prop} (h : post (fw, fp, fl, fk, fc, fg, aV, aO, aP, aD, aN, aT, aR, aH, aW, aG, aL, pd_cp aK aL 5, aU, aE, tA, tM, tB, tO, tS)) : wpX_copyChoice__planned_lockedIn post (fw, fp, fl, fk, fc, fg, aV, aO, aP, aD, aN, aT, aR, aH, aW, aG, aL, aK, aU, aE, tA, tM, tB, tO, tS) := by
  have key : ∀ g i, i + g = 5 → wX_copyChoice__planned_lockedIn_2 post fw fp fl fk fc fg (g + 1) (nI i) aV aO aP aD aN aT aR aH aW aG aL (pd_cp aK aL i) aU aE tA tM tB tO tS := by
    intro g
    induction g with
    | zero =>
      intro i hi
      have e : i = 5 := by omega
      subst e
      exact br_t (by decide) h
    | succ g ih =>
      intro i hi
      have hi5 : i < 5 := by omega
      refine br_f (lt5' i hi5) ⟨vp_in_nI hi5 (by omega), vp_in_nI hi5 (by omega), ?_⟩
      rw [nI_clamp (n := i) (by omega), pd_cps]
      exact nm_e (nm_r (nI_1 i) (ih (i + 1) (by omega)))
  have k0 := key 5 0 rfl
  rw [pd_cp0] at k0
  exact ⟨6, k0⟩
theorem xp_cp_lockedIn_planned {post : SX → Prop} (h : post (fw, fp, fl, fk, fc, fg, aV, aO, aP, aD, aN, aT, aR, aH, aW, aG, pd_cp aL aK 5, aK, aU, aE, tA, tM, tB, tO, tS)) : wpX_copyChoice__lockedIn_planned post (fw, fp, fl, fk, fc, fg, aV, aO, aP, aD, aN, aT, aR, aH, aW, aG, aL, aK, aU, aE, tA, tM, tB, tO, tS) := by
  have key : ∀ g i, i + g = 5 → wX_copyChoice__lockedIn_planned_2 post fw fp fl fk fc fg (g + 1) (nI i) aV aO aP aD aN aT aR aH aW aG (pd_cp aL aK i) aK aU aE tA tM tB tO tS := by
    intro g
    induction g with
    | zero =>
      intro i hi
      have e : i = 5 := by omega
      subst e
      exact br_t (by decide) h
    | succ g ih =>
      intro i hi
      have hi5 : i < 5 := by omega
      refine br_f (lt5' i hi5) ⟨vp_in_nI hi5 (by omega), vp_in_nI hi5 (by omega), ?_⟩
      rw [nI_clamp (n := i) (by omega), pd_cps]
      exact nm_e (nm_r (nI_1 i) (ih (i + 1) (by omega)))
  have k0 := key 5 0 rfl
  rw [pd_cp0] at k0
  exact ⟨6, k0⟩
def pd_n (c : Nat → Int32) : Nat → Nat
  | 0 => 0
  | p + 1 => if c p = 0 then pd_n c p else pd_n c p + 1
theorem pd_nc {c c' : Nat → Int32} : ∀ q, (∀ p, p < q → c p = c' p) → pd_n c q = pd_n c' q := by
  intro q
  induction q with
  | zero => intro _; rfl
  | succ q ih =>
    intro h
    rw [pd_n, pd_n, ih (fun p hp => h p (by omega)), h q (by omega)]
theorem xp_cg_planned {post : Int32 → Prop} (h : post (nI (pd_n aL 5))) : wpX_countGiven__planned post (fw, fp, fl, fk, fc, fg, aV, aO, aP, aD, aN, aT, aR, aH, aW, aG, aL, aK, aU, aE, tA, tM, tB, tO, tS) := by
  have key : ∀ g i, i + g = 5 → wX_countGiven__planned_4 post fw fp fl fk fc fg aV aO aP aD aN aT aR aH aW aG aL aK aU aE tA tM tB tO tS (g + 1) (nI (pd_n aL i)) (nI i) := by
    intro g
    induction g with
    | zero =>
      intro i hi
      have e : i = 5 := by omega
      subst e
      exact br_t (by decide) h
    | succ g ih =>
      intro i hi
      have hi5 : i < 5 := by omega
      have i2 := ih (i + 1) (by omega)
      rw [pd_n] at i2
      refine br_f (lt5' i hi5) ⟨vp_in_nI hi5 (by omega), ?_⟩
      rw [nI_clamp (n := i) (by omega)]
      refine br_c (fun z => ?_) (fun z => ?_)
      · rw [if_pos z] at i2
        exact nm_r (nI_1 i) i2
      · rw [if_neg z] at i2
        exact nm_r (nI_1 _) (nm_r (nI_1 i) i2)
  exact ⟨6, key 5 0 rfl⟩
theorem xp_cg_lockedIn {post : Int32 → Prop} (h : post (nI (pd_n aK 5))) : wpX_countGiven__lockedIn post (fw, fp, fl, fk, fc, fg, aV, aO, aP, aD, aN, aT, aR, aH, aW, aG, aL, aK, aU, aE, tA, tM, tB, tO, tS) := by
  have key : ∀ g i, i + g = 5 → wX_countGiven__lockedIn_4 post fw fp fl fk fc fg aV aO aP aD aN aT aR aH aW aG aL aK aU aE tA tM tB tO tS (g + 1) (nI (pd_n aK i)) (nI i) := by
    intro g
    induction g with
    | zero =>
      intro i hi
      have e : i = 5 := by omega
      subst e
      exact br_t (by decide) h
    | succ g ih =>
      intro i hi
      have hi5 : i < 5 := by omega
      have i2 := ih (i + 1) (by omega)
      rw [pd_n] at i2
      refine br_f (lt5' i hi5) ⟨vp_in_nI hi5 (by omega), ?_⟩
      rw [nI_clamp (n := i) (by omega)]
      refine br_c (fun z => ?_) (fun z => ?_)
      · rw [if_pos z] at i2
        exact nm_r (nI_1 i) i2
      · rw [if_neg z] at i2
        exact nm_r (nI_1 _) (nm_r (nI_1 i) i2)
  exact ⟨6, key 5 0 rfl⟩
theorem yp_sz {post : Int32 → Prop} (h9 : pd_9 yC) (h : post (nI (pd_n yC 5))) : wpY_size post (fw, fp, fl, fk, yN, fg, yO, aO, aP, aD, aN, aT, aR, aH, aW, aG, yA, yM, yC, aL, aK, aU, aE, yR) := by
  have key : ∀ g i, i + g = 5 → wY_size_4 post fw fp fl fk yN fg yO aO aP aD aN aT aR aH aW aG yA yM yC aL aK aU aE yR (g + 1) (nI (pd_n yC i)) (nI i) := by
    intro g
    induction g with
    | zero =>
      intro i hi
      have e : i = 5 := by omega
      subst e
      exact br_t (by decide) h
    | succ g ih =>
      intro i hi
      have hi5 : i < 5 := by omega
      have i2 := ih (i + 1) (by omega)
      obtain ⟨x, hx, ex⟩ := h9 i hi5
      rw [pd_n] at i2
      refine br_f (lt5' i hi5) ⟨vp_in_nI hi5 (by omega), ?_⟩
      rw [nI_clamp (n := i) (by omega), ex]
      refine pk_le x 0 (fun z => ?_) (fun z => ?_) rfl rfl (by omega) (by omega)
      · rw [if_pos (by rw [ex, show x = 0 by omega]; rfl)] at i2
        exact nm_r (nI_1 i) i2
      · rw [if_neg (by rw [ex]; exact nI_ne0 (by omega) (by omega))] at i2
        exact nm_r (nI_1 _) (nm_r (nI_1 i) i2)
  exact ⟨6, key 5 0 rfl⟩
end
section
/-! the searches: solve, solutions, possible, each side against the numbering of the choices -/
variable {fw fp fl fk fc fg yN yO : Int32} {aV aO aP aD aN aT aR aH aW aG aL aK aU aE tA tM tB tO tS yA yM yC yR : Nat → Int32}
theorem pd_ci9 (aO : Nat → Int32) (n : Nat) : pd_9 (pd_ci aO n) := fun p _ => ⟨_, pd_c9 aO n p, rfl⟩
theorem pd_tr9 {aO t : Nat → Int32} {n : Nat} (ht : ∀ p, p < 5 → t p = pd_ci aO n p) : pd_9 t := pd_9c (pd_ci9 aO n) (fun p hp => (ht p hp).symm)
theorem xp_solve {post : Int32 → SX → Prop} {w j : Nat} (hw : fw = nI w) (hw4 : w ≤ 4) (hI : pd_I aD aT aW) (h4 : pd_4 aO) (hV : pd_V aV aO) (hj : j ≤ pd_T aO)
    (hN : ∀ i, i < j → ¬ pd_Q w aP aD aN aT aR aH aW aG (pd_ci aO i)) (hF : j < pd_T aO → pd_Q w aP aD aN aT aR aH aW aG (pd_ci aO j))
    (pN : j = pd_T aO → ∀ t, post (-4) (fw, 0, fl, fk, fc, fg, aV, aO, aP, aD, aN, aT, aR, aH, aW, aG, aL, aK, aU, aE, t, tM, tB, tO, tS)) (pF : j < pd_T aO → ∀ t, post (nI (pd_n (pd_ci aO j) 5)) (fw, 1, fl, fk, fc, fg, aV, aO, aP, aD, aN, aT, aR, aH, aW, aG, pd_cp aL (pd_ci aO j) 5, aK, aU, aE, t, tM, tB, tO, tS)) : wpX_solve post (fw, fp, fl, fk, fc, fg, aV, aO, aP, aD, aN, aT, aR, aH, aW, aG, aL, aK, aU, aE, tA, tM, tB, tO, tS) := by
  have hT := pd_T3125 h4
  have key : ∀ g i, i + g = j → ∀ t, (∀ p, p < 5 → t p = pd_ci aO i p) → wX_solve_11 post (nI (pd_T aO)) (g + 1) (nI i) fw fp fl fk fc fg aV aO aP aD aN aT aR aH aW aG aL aK aU aE t tM tB tO tS := by
    intro g
    induction g with
    | zero =>
      intro i hi t ht
      have e : i = j := by omega
      subst e
      have qi := pd_Qi (w := w) (aP := aP) (aN := aN) (aR := aR) (aH := aH) (aG := aG) hw4 hI (pd_tr9 ht) ht
      by_cases z : i = pd_T aO
      · exact br_t (nI_le (by omega) (by omega)) (pN z t)
      · have hlt : i < pd_T aO := by omega
        refine br_f (nI_ge hlt (by omega)) (xp_sol_trial hw hw4 hI (pd_tr9 ht) (fun q => br_f (by decide) ?_) (fun q => absurd (qi.mpr (hF hlt)) q))
        refine xp_cp_trial_planned (xp_cg_planned ?_)
        rw [pd_nc 5 (fun p hp => (pd_cpe hp).trans (ht p hp)), pd_cpc ht]
        exact pF hlt t
    | succ g ih =>
      intro i hi t ht
      have qi := pd_Qi (w := w) (aP := aP) (aN := aN) (aR := aR) (aH := aH) (aG := aG) hw4 hI (pd_tr9 ht) ht
      refine br_f (nI_ge (show i < pd_T aO by omega) (by omega)) (xp_sol_trial hw hw4 hI (pd_tr9 ht) (fun q => absurd (qi.mp q) (hN i (by omega))) (fun q => br_t rfl ?_))
      exact xp_nt ht (fun t' ht' => nm_r (nI_1 i) (ih (i + 1) (by omega) t' ht'))
  unfold wpX_solve
  refine xp_cc hV (xp_st (fun t ht => ⟨j + 1, key j 0 (by omega) t ht⟩))
theorem yp_solve {post : Int32 → SY → Prop} {w j : Nat} (hw : fw = nI w) (hw4 : w ≤ 4) (hI : pd_I aD aT aW) (h4 : pd_4 aO) (hj : j ≤ pd_T aO)
    (hN : ∀ i, i < j → ¬ pd_Q w aP aD aN aT aR aH aW aG (pd_ci aO i)) (hF : j < pd_T aO → pd_Q w aP aD aN aT aR aH aW aG (pd_ci aO j))
    (pN : j = pd_T aO → ∀ a m c, post (-4) (fw, 0, fl, fk, yN, fg, yO, aO, aP, aD, aN, aT, aR, aH, aW, aG, a, m, c, aL, aK, aU, aE, yR)) (pF : j < pd_T aO → ∀ a m c, post (nI (pd_n (pd_ci aO j) 5)) (fw, 1, fl, fk, yN, fg, yO, aO, aP, aD, aN, aT, aR, aH, aW, aG, a, m, c, pd_cp aL (pd_ci aO j) 5, aK, aU, aE, yR)) : wpY_solve post (fw, fp, fl, fk, yN, fg, yO, aO, aP, aD, aN, aT, aR, aH, aW, aG, yA, yM, yC, aL, aK, aU, aE, yR) := by
  have hT := pd_T3125 h4
  have cp : ∀ a m c : Nat → Int32, pd_9 c → post (nI (pd_n c 5)) (fw, 1, fl, fk, yN, fg, yO, aO, aP, aD, aN, aT, aR, aH, aW, aG, a, m, c, pd_cp aL c 5, aK, aU, aE, yR) → ∀ g i, i + g = 5 → wY_solve_33 post fw 1 fl fk yN fg yO (g + 1) (nI i) aO aP aD aN aT aR aH aW aG a m c (pd_cp aL c i) aK aU aE yR := by
    intro a m c h9 hp g
    induction g with
    | zero =>
      intro i hi
      have e : i = 5 := by omega
      subst e
      exact br_t (by decide) (yp_sz h9 hp)
    | succ g ih =>
      intro i hi
      have hi5 : i < 5 := by omega
      refine br_f (lt5' i hi5) ⟨vp_in_nI hi5 (by omega), vp_in_nI hi5 (by omega), ?_⟩
      rw [nI_clamp (n := i) (by omega), pd_cps]
      exact nm_e (nm_r (nI_1 i) (ih (i + 1) (by omega)))
  have key : ∀ a m : Nat → Int32, pd_Op aO a m → ∀ g i, i + g = j → ∀ c : Nat → Int32, wY_solve_6 post (g + 1) (nI i) fw fp fl fk yN fg yO aO aP aD aN aT aR aH aW aG a m c aL aK aU aE yR := by
    intro a m hO g
    induction g with
    | zero =>
      intro i hi c
      have e : i = j := by omega
      subst e
      by_cases z : i = pd_T aO
      · rw [wY_solve_6]
        exact yp_cs hO (br_t (nI_le (by omega) (by omega)) (pN z a m c))
      · have hlt : i < pd_T aO := by omega
        rw [wY_solve_6]
        refine yp_cs hO (br_f (nI_ge hlt (by omega)) (yp_take (by omega) h4 hO (fun c ht => ?_)))
        have qi := pd_Qi (w := w) (aP := aP) (aN := aN) (aR := aR) (aH := aH) (aG := aG) hw4 hI (pd_tr9 ht) ht
        refine yp_sol hw hw4 hI (pd_tr9 ht) (fun q => br_f (by decide) ⟨6, ?_⟩) (fun q => absurd (qi.mpr (hF hlt)) q)
        have k0 := cp a m c (pd_tr9 ht) (by rw [pd_nc 5 ht, pd_cpc ht]; exact pF hlt a m c) 5 0 rfl
        rw [pd_cp0] at k0
        exact k0
    | succ g ih =>
      intro i hi c
      rw [wY_solve_6]
      refine yp_cs hO (br_f (nI_ge (show i < pd_T aO by omega) (by omega)) (yp_take (by omega) h4 hO (fun c ht => ?_)))
      have qi := pd_Qi (w := w) (aP := aP) (aN := aN) (aR := aR) (aH := aH) (aG := aG) hw4 hI (pd_tr9 ht) ht
      exact yp_sol hw hw4 hI (pd_tr9 ht) (fun q => absurd (qi.mp q) (hN i (by omega))) (fun q => br_t rfl (nm_r (nI_1 i) (ih (i + 1) (by omega) c)))
  unfold wpY_solve
  exact yp_list h4 (fun a m hO => ⟨j + 1, key a m hO j 0 (by omega) yC⟩)
noncomputable def pd_k (P : Nat → Prop) : Nat → Nat
  | 0 => 0
  | i + 1 => @ite Nat (P i) (Classical.propDecidable _) (pd_k P i + 1) (pd_k P i)
theorem pd_kP {P : Nat → Prop} {i : Nat} (h : P i) : pd_k P (i + 1) = pd_k P i + 1 := by
  rw [pd_k, if_pos h]
theorem pd_kN {P : Nat → Prop} {i : Nat} (h : ¬ P i) : pd_k P (i + 1) = pd_k P i := by
  rw [pd_k, if_neg h]
theorem xp_sols {post : Int32 → SX → Prop} {w : Nat} (hw : fw = nI w) (hw4 : w ≤ 4) (hI : pd_I aD aT aW) (h4 : pd_4 aO) (hV : pd_V aV aO)
    (h : ∀ t, post (nI (pd_k (fun i => pd_Q w aP aD aN aT aR aH aW aG (pd_ci aO i)) (pd_T aO))) (fw, fp, fl, fk, fc, fg, aV, aO, aP, aD, aN, aT, aR, aH, aW, aG, aL, aK, aU, aE, t, tM, tB, tO, tS)) : wpX_solutions post (fw, fp, fl, fk, fc, fg, aV, aO, aP, aD, aN, aT, aR, aH, aW, aG, aL, aK, aU, aE, tA, tM, tB, tO, tS) := by
  have hT := pd_T3125 h4
  have key : ∀ g i, i + g = pd_T aO → ∀ t, (∀ p, p < 5 → t p = pd_ci aO i p) → wX_solutions_13 post (nI (pd_T aO)) (g + 1) (nI (pd_k (fun i => pd_Q w aP aD aN aT aR aH aW aG (pd_ci aO i)) i)) (nI i) fw fp fl fk fc fg aV aO aP aD aN aT aR aH aW aG aL aK aU aE t tM tB tO tS := by
    intro g
    induction g with
    | zero =>
      intro i hi t ht
      have e : i = pd_T aO := by omega
      subst e
      exact br_t (nI_le (by omega) (by omega)) (h t)
    | succ g ih =>
      intro i hi t ht
      have qi := pd_Qi (w := w) (aP := aP) (aN := aN) (aR := aR) (aH := aH) (aG := aG) hw4 hI (pd_tr9 ht) ht
      refine br_f (nI_ge (show i < pd_T aO by omega) (by omega)) (xp_sol_trial hw hw4 hI (pd_tr9 ht) (fun q => br_f (by decide) (nm_r (nI_1 _) ?_)) (fun q => br_t rfl ?_))
      · refine xp_nt ht (fun t' ht' => nm_r (nI_1 i) ?_)
        have i2 := ih (i + 1) (by omega) t' ht'
        rw [pd_kP (P := fun i => pd_Q w aP aD aN aT aR aH aW aG (pd_ci aO i)) (qi.mp q)] at i2
        exact i2
      · refine xp_nt ht (fun t' ht' => nm_r (nI_1 i) ?_)
        have i2 := ih (i + 1) (by omega) t' ht'
        rw [pd_kN (P := fun i => pd_Q w aP aD aN aT aR aH aW aG (pd_ci aO i)) (fun y => q (qi.mpr y))] at i2
        exact i2
  unfold wpX_solutions
  exact xp_cc hV (xp_st (fun t ht => ⟨_, key (pd_T aO) 0 (by omega) t ht⟩))
theorem yp_sols {post : Int32 → SY → Prop} {w : Nat} (hw : fw = nI w) (hw4 : w ≤ 4) (hI : pd_I aD aT aW) (h4 : pd_4 aO)
    (h : ∀ a m c, post (nI (pd_k (fun i => pd_Q w aP aD aN aT aR aH aW aG (pd_ci aO i)) (pd_T aO))) (fw, fp, fl, fk, yN, fg, yO, aO, aP, aD, aN, aT, aR, aH, aW, aG, a, m, c, aL, aK, aU, aE, yR)) : wpY_solutions post (fw, fp, fl, fk, yN, fg, yO, aO, aP, aD, aN, aT, aR, aH, aW, aG, yA, yM, yC, aL, aK, aU, aE, yR) := by
  have hT := pd_T3125 h4
  have key : ∀ a m : Nat → Int32, pd_Op aO a m → ∀ g i, i + g = pd_T aO → ∀ c : Nat → Int32, wY_solutions_8 post (g + 1) (nI (pd_k (fun i => pd_Q w aP aD aN aT aR aH aW aG (pd_ci aO i)) i)) (nI i) fw fp fl fk yN fg yO aO aP aD aN aT aR aH aW aG a m c aL aK aU aE yR := by
    intro a m hO g
    induction g with
    | zero =>
      intro i hi c
      have e : i = pd_T aO := by omega
      subst e
      rw [wY_solutions_8]
      exact yp_cs hO (br_t (nI_le (by omega) (by omega)) (h a m c))
    | succ g ih =>
      intro i hi c
      rw [wY_solutions_8]
      refine yp_cs hO (br_f (nI_ge (show i < pd_T aO by omega) (by omega)) (yp_take (by omega) h4 hO (fun c ht => ?_)))
      have qi := pd_Qi (w := w) (aP := aP) (aN := aN) (aR := aR) (aH := aH) (aG := aG) hw4 hI (pd_tr9 ht) ht
      refine yp_sol hw hw4 hI (pd_tr9 ht) (fun q => br_f (by decide) (nm_r (nI_1 _) (nm_r (nI_1 i) ?_))) (fun q => br_t rfl (nm_r (nI_1 i) ?_))
      · have i2 := ih (i + 1) (by omega) c
        rw [pd_kP (P := fun i => pd_Q w aP aD aN aT aR aH aW aG (pd_ci aO i)) (qi.mp q)] at i2
        exact i2
      · have i2 := ih (i + 1) (by omega) c
        rw [pd_kN (P := fun i => pd_Q w aP aD aN aT aR aH aW aG (pd_ci aO i)) (fun y => q (qi.mpr y))] at i2
        exact i2
  unfold wpY_solutions
  exact yp_list h4 (fun a m hO => ⟨_, key a m hO (pd_T aO) 0 (by omega) yC⟩)
theorem xp_pos {post : Int32 → SX → Prop} {w j q v : Nat} (hq : q < 5) (hv : v ≤ 9) (hw : fw = nI w) (hw4 : w ≤ 4) (hI : pd_I aD aT aW) (h4 : pd_4 aO) (hj : j ≤ pd_T aO)
    (hN : ∀ i, i < j → ¬ (pd_ci aO i q = nI v ∧ pd_Q w aP aD aN aT aR aH aW aG (pd_ci aO i))) (hF : j < pd_T aO → pd_ci aO j q = nI v ∧ pd_Q w aP aD aN aT aR aH aW aG (pd_ci aO j))
    (pN : j = pd_T aO → ∀ t, post 0 (fw, fp, fl, fk, fc, fg, aV, aO, aP, aD, aN, aT, aR, aH, aW, aG, aL, aK, aU, aE, t, tM, tB, tO, tS)) (pF : j < pd_T aO → ∀ t, post 1 (fw, fp, fl, fk, fc, fg, aV, aO, aP, aD, aN, aT, aR, aH, aW, aG, aL, aK, aU, aE, t, tM, tB, tO, tS)) : ∀ g i, i + g = j → ∀ t, (∀ p, p < 5 → t p = pd_ci aO i p) → wX_possible_31 post (nI q) (nI v) (nI (pd_T aO)) (g + 1) (nI i) fw fp fl fk fc fg aV aO aP aD aN aT aR aH aW aG aL aK aU aE t tM tB tO tS := by
  have hT := pd_T3125 h4
  intro g
  induction g with
  | zero =>
    intro i hi t ht
    have e : i = j := by omega
    subst e
    have qi := pd_Qi (w := w) (aP := aP) (aN := aN) (aR := aR) (aH := aH) (aG := aG) hw4 hI (pd_tr9 ht) ht
    by_cases z : i = pd_T aO
    · exact br_t (nI_le (by omega) (by omega)) (pN z t)
    · have hlt : i < pd_T aO := by omega
      refine br_f (nI_ge hlt (by omega)) ⟨vp_in_nI hq (by omega), ?_⟩
      rw [nI_clamp (n := q) (by omega)]
      exact br_t ((ht q hq).trans (hF hlt).1) (xp_sol_trial hw hw4 hI (pd_tr9 ht) (fun _ => br_f (by decide) (pF hlt t)) (fun y => absurd (qi.mpr (hF hlt).2) y))
  | succ g ih =>
    intro i hi t ht
    have qi := pd_Qi (w := w) (aP := aP) (aN := aN) (aR := aR) (aH := aH) (aG := aG) hw4 hI (pd_tr9 ht) ht
    refine br_f (nI_ge (show i < pd_T aO by omega) (by omega)) ⟨vp_in_nI hq (by omega), ?_⟩
    rw [nI_clamp (n := q) (by omega)]
    have nx : wX_possible_60 post (wX_possible_31 post (nI q) (nI v) (nI (pd_T aO)) (g + 1)) (nI q) (nI v) (nI (pd_T aO)) (nI i) fw fp fl fk fc fg aV aO aP aD aN aT aR aH aW aG aL aK aU aE t tM tB tO tS := xp_nt ht (fun t' ht' => nm_r (nI_1 i) (ih (i + 1) (by omega) t' ht'))
    exact br_c (fun e => xp_sol_trial hw hw4 hI (pd_tr9 ht) (fun y => absurd ⟨(ht q hq).symm.trans e, qi.mp y⟩ (hN i (by omega))) (fun _ => br_t rfl nx)) (fun _ => nx)
theorem yp_pos {post : Int32 → SY → Prop} {w j q v : Nat} {a m : Nat → Int32} (hO : pd_Op aO a m) (hq : q < 5) (hv : v ≤ 9) (hw : fw = nI w) (hw4 : w ≤ 4) (hI : pd_I aD aT aW) (h4 : pd_4 aO) (hj : j ≤ pd_T aO)
    (hN : ∀ i, i < j → ¬ (pd_ci aO i q = nI v ∧ pd_Q w aP aD aN aT aR aH aW aG (pd_ci aO i))) (hF : j < pd_T aO → pd_ci aO j q = nI v ∧ pd_Q w aP aD aN aT aR aH aW aG (pd_ci aO j))
    (pN : j = pd_T aO → ∀ c, post 0 (fw, fp, fl, fk, yN, fg, yO, aO, aP, aD, aN, aT, aR, aH, aW, aG, a, m, c, aL, aK, aU, aE, yR)) (pF : j < pd_T aO → ∀ c, post 1 (fw, fp, fl, fk, yN, fg, yO, aO, aP, aD, aN, aT, aR, aH, aW, aG, a, m, c, aL, aK, aU, aE, yR)) : ∀ g i, i + g = j → ∀ c, wY_possible_26 post (nI q) (nI v) (g + 1) (nI i) fw fp fl fk yN fg yO aO aP aD aN aT aR aH aW aG a m c aL aK aU aE yR := by
  have hT := pd_T3125 h4
  intro g
  induction g with
  | zero =>
    intro i hi c
    have e : i = j := by omega
    subst e
    by_cases z : i = pd_T aO
    · rw [wY_possible_26]
      exact yp_cs hO (br_t (nI_le (by omega) (by omega)) (pN z c))
    · have hlt : i < pd_T aO := by omega
      rw [wY_possible_26]
      refine yp_cs hO (br_f (nI_ge hlt (by omega)) (yp_take (by omega) h4 hO (fun c ht => ⟨vp_in_nI hq (by omega), ?_⟩)))
      have qi := pd_Qi (w := w) (aP := aP) (aN := aN) (aR := aR) (aH := aH) (aG := aG) hw4 hI (pd_tr9 ht) ht
      rw [nI_clamp (n := q) (by omega)]
      exact br_t ((ht q hq).trans (hF hlt).1) (yp_sol hw hw4 hI (pd_tr9 ht) (fun _ => br_f (by decide) (pF hlt c)) (fun y => absurd (qi.mpr (hF hlt).2) y))
  | succ g ih =>
    intro i hi c
    rw [wY_possible_26]
    refine yp_cs hO (br_f (nI_ge (show i < pd_T aO by omega) (by omega)) (yp_take (by omega) h4 hO (fun c ht => ⟨vp_in_nI hq (by omega), ?_⟩)))
    have qi := pd_Qi (w := w) (aP := aP) (aN := aN) (aR := aR) (aH := aH) (aG := aG) hw4 hI (pd_tr9 ht) ht
    rw [nI_clamp (n := q) (by omega)]
    exact br_c (fun e => yp_sol hw hw4 hI (pd_tr9 ht) (fun y => absurd ⟨(ht q hq).symm.trans e, qi.mp y⟩ (hN i (by omega))) (fun _ => br_t rfl (nm_r (nI_1 i) (ih (i + 1) (by omega) c)))) (fun _ => nm_r (nI_1 i) (ih (i + 1) (by omega) c))
end
section
/-! blame -/
variable {fw fp fl fk fc fg yN yO : Int32} {aV aO aP aD aN aT aR aH aW aG aL aK aU aE tA tM tB tO tS yA yM yC yR : Nat → Int32}
def pd_CM (w : Nat) (aO aP aD aN aT aR aH aW aG : Nat → Int32) (x : Int32) : Prop := ∃ i, i < pd_T aO ∧ pd_S aP aD aN aT aR (pd_ci aO i) ∧ ∀ k, k < w → bt x k = true → pd_w aH aW aG (pd_ci aO i) k = true
def pd_EX (w : Nat) (aO aP aD aN aT aR aH aW aG : Nat → Int32) (n s : Nat) : Prop := ∃ i, i < n ∧ pd_S aP aD aN aT aR (pd_ci aO i) ∧ pd_m (pd_w aH aW aG (pd_ci aO i)) w = s
theorem pd_nb0 : vp_nar .boolean 0 = 0 := by decide +kernel
theorem pd_nb1 : vp_nar .boolean 1 = 1 := by decide +kernel
theorem pd_btn (n : Nat) {k : Nat} (hk : k < 32) : bt (nI n) k = n.testBit k := by
  show (BitVec.ofNat 32 n).getLsbD k = _
  rw [BitVec.getLsbD_ofNat, decide_eq_true hk, Bool.true_and]
theorem xp_noteL {post : SX → Prop} {w : Nat} (hw : fw = nI w) (hw4 : w ≤ 4) (hI : pd_I aD aT aW) (h4 : pd_4 aO)
    (h : ∀ t M, (∀ s, s < 16 → (¬ M s = 0 ↔ pd_EX w aO aP aD aN aT aR aH aW aG (pd_T aO) s)) → post (fw, fp, fl, fk, fc, fg, aV, aO, aP, aD, aN, aT, aR, aH, aW, aG, aL, aK, aU, aE, t, M, tB, tO, tS)) :
    ∀ g i, i + g = pd_T aO → ∀ t M, (∀ p, p < 5 → t p = pd_ci aO i p) → (∀ s, s < 16 → (¬ M s = 0 ↔ pd_EX w aO aP aD aN aT aR aH aW aG i s)) → wX_noteMetSets_32 post (nI (pd_T aO)) (g + 1) (nI i) fw fp fl fk fc fg aV aO aP aD aN aT aR aH aW aG aL aK aU aE t M tB tO tS := by
  have hT := pd_T3125 h4
  have h16 : 2 ^ w ≤ 2 ^ 4 := Nat.pow_le_pow_right (by decide) hw4
  intro g
  induction g with
  | zero =>
    intro i hi t M ht hM
    have e : i = pd_T aO := by omega
    subst e
    exact br_t (nI_le (by omega) (by omega)) (h t M hM)
  | succ g ih =>
    intro i hi t M ht hM
    have si := pd_Si (aP := aP) (aN := aN) (aR := aR) hI (pd_tr9 ht) ht
    have em : pd_m (pd_w aH aW aG t) w = pd_m (pd_w aH aW aG (pd_ci aO i)) w := pd_mc w (fun k hk => pd_wc (hI.2.2 k (by omega)) ht)
    have hm := pd_mlt (pd_w aH aW aG (pd_ci aO i)) w
    have hm16 : pd_m (pd_w aH aW aG (pd_ci aO i)) w < 16 := by omega
    refine br_f (nI_ge (show i < pd_T aO by omega) (by omega)) (xp_mw_trial hw hw4 hI ?_)
    rw [em, nI_clamp (n := pd_m (pd_w aH aW aG (pd_ci aO i)) w) (by omega)]
    refine ⟨vp_in_nI hm16 (by omega), br_c (fun z => xp_snd_trial hI (pd_tr9 ht) (fun s => br_f (by decide) ⟨vp_in_nI hm16 (by omega), nm_e ?_⟩) (fun s => br_t rfl ?_)) (fun z => ?_)⟩
    · refine xp_nt ht (fun t' ht' => nm_r (nI_1 i) (ih (i + 1) (by omega) t' _ ht' ?_))
      intro s' hs'
      by_cases y : s' = pd_m (pd_w aH aW aG (pd_ci aO i)) w
      · subst y
        rw [pk_us, pd_nb1]
        exact ⟨fun _ => ⟨i, by omega, si.mp s, rfl⟩, fun _ => by decide⟩
      · rw [pk_un y, hM s' hs']
        constructor
        · rintro ⟨k, hk, a, b⟩
          exact ⟨k, by omega, a, b⟩
        · rintro ⟨k, hk, a, b⟩
          by_cases x : k = i
          · subst x; exact absurd b.symm y
          · exact ⟨k, by omega, a, b⟩
    · refine xp_nt ht (fun t' ht' => nm_r (nI_1 i) (ih (i + 1) (by omega) t' M ht' ?_))
      intro s' hs'
      rw [hM s' hs']
      constructor
      · rintro ⟨k, hk, a, b⟩
        exact ⟨k, by omega, a, b⟩
      · rintro ⟨k, hk, a, b⟩
        by_cases x : k = i
        · subst x; exact absurd (si.mpr a) s
        · exact ⟨k, by omega, a, b⟩
    · refine xp_nt ht (fun t' ht' => nm_r (nI_1 i) (ih (i + 1) (by omega) t' M ht' ?_))
      intro s' hs'
      rw [hM s' hs']
      constructor
      · rintro ⟨k, hk, a, b⟩
        exact ⟨k, by omega, a, b⟩
      · rintro ⟨k, hk, a, b⟩
        by_cases x : k = i
        · subst x
          rw [← b, ← hM _ hm16]
          exact z
        · exact ⟨k, by omega, a, b⟩
theorem xp_note {post : SX → Prop} {w : Nat} (hw : fw = nI w) (hw4 : w ≤ 4) (hI : pd_I aD aT aW) (h4 : pd_4 aO) (hV : pd_V aV aO)
    (h : ∀ t M, (∀ s, s < 16 → (¬ M s = 0 ↔ pd_EX w aO aP aD aN aT aR aH aW aG (pd_T aO) s)) → post (fw, fp, fl, fk, fc, fg, aV, aO, aP, aD, aN, aT, aR, aH, aW, aG, aL, aK, aU, aE, t, M, tB, tO, tS)) : wpX_noteMetSets post (fw, fp, fl, fk, fc, fg, aV, aO, aP, aD, aN, aT, aR, aH, aW, aG, aL, aK, aU, aE, tA, tM, tB, tO, tS) := by
  have key : ∀ g i, i + g = 16 → ∀ M : Nat → Int32, (∀ s, s < i → M s = 0) → wX_noteMetSets_2 post fw fp fl fk fc fg (g + 1) (nI i) aV aO aP aD aN aT aR aH aW aG aL aK aU aE tA M tB tO tS := by
    intro g
    induction g with
    | zero =>
      intro i hi M hM
      have e : i = 16 := by omega
      subst e
      refine br_t (by decide) (xp_cc hV (xp_st (fun t ht => ⟨_, xp_noteL hw hw4 hI h4 h (pd_T aO) 0 (by omega) t M ht ?_⟩)))
      intro s hs
      exact ⟨fun y => absurd (hM s hs) y, fun ⟨k, hk, _⟩ => absurd hk (Nat.not_lt_zero _)⟩
    | succ g ih =>
      intro i hi M hM
      have hi6 : i < 16 := by omega
      refine br_f (nI_ge (b := 16) hi6 (by decide)) ⟨vp_in_nI hi6 (by omega), ?_⟩
      rw [nI_clamp (n := i) (by omega)]
      refine nm_e (nm_r (nI_1 i) (ih (i + 1) (by omega) _ ?_))
      intro s hs
      by_cases y : s = i
      · subst y; rw [pk_us, pd_nb0]
      · rw [pk_un y]; exact hM s (by omega)
  exact ⟨17, key 16 0 rfl tM (fun s hs => absurd hs (Nat.not_lt_zero _))⟩
theorem xp_cm {post : Int32 → Prop} {x : Int32} (h1 : (∃ s, s < 16 ∧ ¬ tM s = 0 ∧ nI s &&& x = x) → post 1) (h0 : ¬ (∃ s, s < 16 ∧ ¬ tM s = 0 ∧ nI s &&& x = x) → post 0) : wpX_canMeet post (fw, fp, fl, fk, fc, fg, aV, aO, aP, aD, aN, aT, aR, aH, aW, aG, aL, aK, aU, aE, tA, tM, tB, tO, tS) x := by
  have key : ∀ g i, i + g = 16 → (∀ s, s < i → ¬ (¬ tM s = 0 ∧ nI s &&& x = x)) → wX_canMeet_2 post x fw fp fl fk fc fg aV aO aP aD aN aT aR aH aW aG aL aK aU aE tA tM tB tO tS (g + 1) (nI i) := by
    intro g
    induction g with
    | zero =>
      intro i hi hM
      have e : i = 16 := by omega
      subst e
      exact br_t (by decide) (h0 (fun ⟨s, hs, a⟩ => hM s hs a))
    | succ g ih =>
      intro i hi hM
      have hi6 : i < 16 := by omega
      refine br_f (nI_ge (b := 16) hi6 (by decide)) ⟨vp_in_nI hi6 (by omega), ?_⟩
      rw [nI_clamp (n := i) (by omega)]
      refine br_c (fun z => nm_r (nI_1 i) (ih (i + 1) (by omega) ?_)) (fun z => br_c (fun y => h1 ⟨i, hi6, z, y⟩) (fun y => nm_r (nI_1 i) (ih (i + 1) (by omega) ?_)))
      · intro s hs
        by_cases q : s = i
        · subst q; exact fun a => a.1 z
        · exact hM s (by omega)
      · intro s hs
        by_cases q : s = i
        · subst q; exact fun a => y a.2
        · exact hM s (by omega)
  exact ⟨17, key 16 0 rfl (fun s hs => absurd hs (Nat.not_lt_zero _))⟩
def pd_b (s : Nat) : Nat → Nat
  | 0 => 0
  | i + 1 => pd_b s i + s / 2 ^ i % 2
theorem xp_cb {post : Int32 → Prop} {s : Nat} (hs : s < 16) (h : post (nI (pd_b s 4))) : wpX_countBits post (nI s) := by
  have key : ∀ g i, i + g = 4 → wX_countBits_4 post (nI s) (g + 1) (nI (pd_b s i)) (nI i) := by
    intro g
    induction g with
    | zero =>
      intro i hi
      have e : i = 4 := by omega
      subst e
      exact br_t (by decide) h
    | succ g ih =>
      intro i hi
      have hd : s / 2 ^ i ≤ s := Nat.div_le_self _ _
      refine br_f (nI_ge (b := 4) (by omega) (by decide)) (nm_r (e' := nI (pd_b s (i + 1))) ?_ (nm_r (nI_1 i) (ih (i + 1) (by omega))))
      have e1 : nI (s / 2 ^ i) &&& 1 = nI (s / 2 ^ i % 2) := by
        show nI (s / 2 ^ i) &&& nI 1 = _
        rw [nx_and, Nat.and_one_is_mod]
      rw [pk_shrN (by omega) (nI i &&& 31) i (s_l i (by omega)), e1, nI_add]
      rfl
  exact ⟨5, key 4 0 rfl⟩
theorem pd_yb : ∀ s, s < 16 → ((((nI s &&& 1) + ((nI s >>> ((1 : Int32) &&& 31)) &&& 1)) + ((nI s >>> ((2 : Int32) &&& 31)) &&& 1)) + ((nI s >>> ((3 : Int32) &&& 31)) &&& 1)) = nI (pd_b s 4) := by decide +kernel
theorem yp_bi {post : Int32 → Prop} {s : Nat} (hs : s < 16) (h : post (nI (pd_b s 4))) : wpY_bits post (fw, fp, fl, fk, yN, fg, yO, aO, aP, aD, aN, aT, aR, aH, aW, aG, yA, yM, yC, aL, aK, aU, aE, yR) (nI s) := by
  unfold wpY_bits
  dsimp only
  rw [pd_yb s hs]
  exact h
theorem yp_cbm {post : Int32 → SY → Prop} {w : Nat} {x : Int32} (hw : fw = nI w) (hw4 : w ≤ 4) (hI : pd_I aD aT aW) (h4 : pd_4 aO) (hO : pd_Op aO yA yM)
    (h1 : pd_CM w aO aP aD aN aT aR aH aW aG x → ∀ c, post 1 (fw, fp, fl, fk, yN, fg, yO, aO, aP, aD, aN, aT, aR, aH, aW, aG, yA, yM, c, aL, aK, aU, aE, yR)) (h0 : ¬ pd_CM w aO aP aD aN aT aR aH aW aG x → ∀ c, post 0 (fw, fp, fl, fk, yN, fg, yO, aO, aP, aD, aN, aT, aR, aH, aW, aG, yA, yM, c, aL, aK, aU, aE, yR)) : wpY_canBeMet post (fw, fp, fl, fk, yN, fg, yO, aO, aP, aD, aN, aT, aR, aH, aW, aG, yA, yM, yC, aL, aK, aU, aE, yR) x := by
  have hT := pd_T3125 h4
  have key : ∀ g i, i + g = pd_T aO → (∀ k, k < i → ¬ (pd_S aP aD aN aT aR (pd_ci aO k) ∧ ∀ l, l < w → bt x l = true → pd_w aH aW aG (pd_ci aO k) l = true)) → ∀ c, wY_canBeMet_2 post x (g + 1) (nI i) fw fp fl fk yN fg yO aO aP aD aN aT aR aH aW aG yA yM c aL aK aU aE yR := by
    intro g
    induction g with
    | zero =>
      intro i hi hN c
      have e : i = pd_T aO := by omega
      subst e
      rw [wY_canBeMet_2]
      exact yp_cs hO (br_t (nI_le (by omega) (by omega)) (h0 (fun ⟨k, hk, a⟩ => hN k hk a) c))
    | succ g ih =>
      intro i hi hN c
      rw [wY_canBeMet_2]
      refine yp_cs hO (br_f (nI_ge (show i < pd_T aO by omega) (by omega)) (yp_take (by omega) h4 hO (fun c ht => ?_)))
      have si := pd_Si (aP := aP) (aN := aN) (aR := aR) hI (pd_tr9 ht) ht
      have wi : ∀ l, l < w → pd_w aH aW aG c l = pd_w aH aW aG (pd_ci aO i) l := fun l hl => pd_wc (hI.2.2 l (by omega)) ht
      refine yp_snd hI (pd_tr9 ht) (fun s => br_f (by decide) (yp_meets hw hw4 hI (fun m => br_f (by decide) (h1 ⟨i, by omega, si.mp s, fun l hl hb => (wi l hl) ▸ m l hl hb⟩ c)) (fun m => br_t rfl (nm_r (nI_1 i) (ih (i + 1) (by omega) ?_ c))))) (fun s => br_t rfl (nm_r (nI_1 i) (ih (i + 1) (by omega) ?_ c)))
      · intro k hk
        by_cases q : k = i
        · subst q; exact fun a => m (fun l hl hb => (wi l hl).symm ▸ a.2 l hl hb)
        · exact hN k (by omega)
      · intro k hk
        by_cases q : k = i
        · subst q; exact fun a => s (si.mpr a.1)
        · exact hN k (by omega)
  exact ⟨_, key (pd_T aO) 0 (by omega) (fun k hk => absurd hk (Nat.not_lt_zero _)) yC⟩
end
section
/-! blame: the least set that no sound choice meets -/
variable {fw fp fl fk fc fg yN yO : Int32} {aV aO aP aD aN aT aR aH aW aG aL aK aU aE tA tM tB tO tS yA yM yC yR : Nat → Int32}
def pd_lt (a b : Nat) : Prop := pd_b a 4 < pd_b b 4 ∨ (pd_b a 4 = pd_b b 4 ∧ a < b)
def pd_Be (w : Nat) (aO aP aD aN aT aR aH aW aG : Nat → Int32) (r : Nat) : Prop := 1 ≤ r ∧ r ≤ 2 ^ w - 1 ∧ ¬ pd_CM w aO aP aD aN aT aR aH aW aG (nI r) ∧ ∀ s, 1 ≤ s → s ≤ 2 ^ w - 1 → ¬ pd_CM w aO aP aD aN aT aR aH aW aG (nI s) → ¬ pd_lt s r
theorem pd_Beu {w r r' : Nat} (h : pd_Be w aO aP aD aN aT aR aH aW aG r) (h' : pd_Be w aO aP aD aN aT aR aH aW aG r') : r = r' := by
  have a := h.2.2.2 r' h'.1 h'.2.1 h'.2.2.1
  have b := h'.2.2.2 r h.1 h.2.1 h.2.2.1
  unfold pd_lt at a b
  omega
theorem pd_b4 : ∀ w, w ≤ 4 → ∀ s, s < 16 → s < 2 ^ w - 1 → pd_b s 4 < pd_b (2 ^ w - 1) 4 := by decide +kernel
theorem pd_b15 : ∀ w, w ≤ 4 → pd_b (2 ^ w - 1) 4 ≤ pd_b 15 4 := by decide +kernel
theorem pd_bb : ∀ s, s < 16 → pd_b s 4 ≤ 4 := by decide +kernel
theorem pd_sub16 {a b : Nat} : a &&& b = b ↔ ∀ k, b.testBit k = true → a.testBit k = true := by
  constructor
  · intro h k hk
    rw [← h, Nat.testBit_and, Bool.and_eq_true] at hk
    exact hk.1
  · intro h
    apply Nat.eq_of_testBit_eq
    intro k
    rw [Nat.testBit_and]
    cases z : b.testBit k
    · rw [Bool.and_false]
    · rw [h k z]; rfl
theorem pd_CMi {w s : Nat} (hw4 : w ≤ 4) (hs : s < 2 ^ w) : (∃ s', s' < 16 ∧ pd_EX w aO aP aD aN aT aR aH aW aG (pd_T aO) s' ∧ nI s' &&& nI s = nI s) ↔ pd_CM w aO aP aD aN aT aR aH aW aG (nI s) := by
  have h16 : 2 ^ w ≤ 2 ^ 4 := Nat.pow_le_pow_right (by decide) hw4
  constructor
  · rintro ⟨s', hs', ⟨i, hi, a, e⟩, b⟩
    refine ⟨i, hi, a, ?_⟩
    rw [nx_and, nI_eq (Nat.lt_of_le_of_lt Nat.and_le_left (by omega)) (by omega), pd_sub16] at b
    intro k hk hb
    rw [pd_btn s (by omega)] at hb
    have := b k hb
    rw [← e, pd_mtb _ w k hk] at this
    exact this
  · rintro ⟨i, hi, a, b⟩
    have hm := pd_mlt (pd_w aH aW aG (pd_ci aO i)) w
    refine ⟨pd_m (pd_w aH aW aG (pd_ci aO i)) w, by omega, ⟨i, hi, a, rfl⟩, ?_⟩
    rw [nx_and, nI_eq (Nat.lt_of_le_of_lt Nat.and_le_left (by omega)) (by omega), pd_sub16]
    intro k hk
    by_cases hkw : k < w
    · rw [pd_mtb _ w k hkw]
      exact b k hkw (by rw [pd_btn s (by omega)]; exact hk)
    · have : s.testBit k = false := Nat.testBit_lt_two_pow (Nat.lt_of_lt_of_le hs (Nat.pow_le_pow_right (by decide) (by omega)))
      rw [this] at hk
      cases hk
theorem pd_CM15 {w : Nat} (hw4 : w ≤ 4) : pd_EX w aO aP aD aN aT aR aH aW aG (pd_T aO) (2 ^ w - 1) ↔ pd_CM w aO aP aD aN aT aR aH aW aG 15 := by
  constructor
  · rintro ⟨i, hi, a, e⟩
    rw [pd_mall] at e
    exact ⟨i, hi, a, fun k hk _ => e k hk⟩
  · rintro ⟨i, hi, a, e⟩
    exact ⟨i, hi, a, (pd_mall _ _).mpr (fun k hk => e k hk (pd_15 k (by omega)))⟩
theorem pd_CMall {w : Nat} (hw4 : w ≤ 4) : pd_CM w aO aP aD aN aT aR aH aW aG (nI (2 ^ w - 1)) → pd_CM w aO aP aD aN aT aR aH aW aG 15 := by
  have hp : 0 < 2 ^ w := Nat.two_pow_pos w
  have h16 : 2 ^ w ≤ 2 ^ 4 := Nat.pow_le_pow_right (by decide) hw4
  rintro ⟨i, hi, a, e⟩
  refine ⟨i, hi, a, fun k hk _ => e k hk ?_⟩
  rw [pd_btn _ (by omega), Nat.testBit_two_pow_sub_one, decide_eq_true hk]
theorem pd_S0 : pd_S aP aD aN aT aR (pd_ci aO 0) := fun p _ h => absurd (pd_ci0 aO p) h
theorem pd_CM0 : pd_CM 0 aO aP aD aN aT aR aH aW aG 15 := ⟨0, pd_Tpos aO, pd_S0, fun k hk => absurd hk (Nat.not_lt_zero _)⟩
theorem xp_blameL {post : Int32 → SX → Prop} {w : Nat} (hw4 : w ≤ 4) (hM : ∀ s, s < 16 → (¬ tM s = 0 ↔ pd_EX w aO aP aD aN aT aR aH aW aG (pd_T aO) s))
    (h : ∀ r, pd_Be w aO aP aD aN aT aR aH aW aG r → post (nI r) (fw, fp, fl, fk, fc, fg, aV, aO, aP, aD, aN, aT, aR, aH, aW, aG, aL, aK, aU, aE, tA, tM, tB, tO, tS)) :
    ∀ g s l, s + g = 2 ^ w - 1 → 1 ≤ s → 1 ≤ l → l ≤ 2 ^ w - 1 → ¬ pd_CM w aO aP aD aN aT aR aH aW aG (nI l) → (l = 2 ^ w - 1 ∨ l < s) → (∀ u, 1 ≤ u → (u < s ∨ u = 2 ^ w - 1) → ¬ pd_CM w aO aP aD aN aT aR aH aW aG (nI u) → ¬ pd_lt u l) → wX_blame_29 post (nI (2 ^ w - 1)) fw fp fl fk fc fg aV aO aP aD aN aT aR aH aW aG aL aK aU aE tA tM tB tO tS (g + 1) (nI l) (nI s) := by
  have h16 : 2 ^ w ≤ 2 ^ 4 := Nat.pow_le_pow_right (by decide) hw4
  have hp : 0 < 2 ^ w := Nat.two_pow_pos w
  intro g
  induction g with
  | zero =>
    intro s l hg hs hl1 hl2 hl3 hl4 hu
    refine br_t (nI_le (by omega) (by omega)) (h l ⟨hl1, hl2, hl3, fun u a b c => hu u a ?_ c⟩)
    omega
  | succ g ih =>
    intro s l hg hs hl1 hl2 hl3 hl4 hu
    have hbs := pd_bb s (by omega)
    have hbl := pd_bb l (by omega)
    have hall := pd_b4 w hw4 s (by omega) (by omega)
    have hCM : (∃ s', s' < 16 ∧ ¬ tM s' = 0 ∧ nI s' &&& nI s = nI s) ↔ pd_CM w aO aP aD aN aT aR aH aW aG (nI s) := by
      rw [← pd_CMi hw4 (show s < 2 ^ w by omega)]
      constructor
      · rintro ⟨a, b, c, d⟩; exact ⟨a, b, (hM a b).mp c, d⟩
      · rintro ⟨a, b, c, d⟩; exact ⟨a, b, (hM a b).mpr c, d⟩
    refine br_f (nI_ge (by omega) (by omega)) (xp_cb (by omega) (xp_cb (by omega) ?_))
    refine pk_le (pd_b l 4) (pd_b s 4) (fun z => nm_r (nI_1 s) (ih (s + 1) l (by omega) (by omega) hl1 hl2 hl3 (by omega) ?_)) (fun z => xp_cm (fun y => br_f (by decide) (nm_r (nI_1 s) (ih (s + 1) l (by omega) (by omega) hl1 hl2 hl3 (by omega) ?_))) (fun y => br_t rfl (nm_r (nI_1 s) (ih (s + 1) s (by omega) (by omega) hs (by omega) (fun q => y (hCM.mpr q)) (by omega) ?_)))) rfl rfl (by omega) (by omega)
    · intro u a b c
      by_cases q : u = s
      · subst q
        unfold pd_lt
        rcases hl4 with e | e
        · rw [e] at z ⊢
          omega
        · omega
      · exact hu u a (by omega) c
    · intro u a b c
      by_cases q : u = s
      · subst q; exact absurd (hCM.mp y) c
      · exact hu u a (by omega) c
    · intro u a b c
      by_cases q : u = s
      · subst q; unfold pd_lt; omega
      · have := hu u a (by omega) c
        unfold pd_lt at this ⊢
        omega
theorem xp_blame {post : Int32 → SX → Prop} {w : Nat} (hw : fw = nI w) (hw4 : w ≤ 4) (hI : pd_I aD aT aW) (h4 : pd_4 aO) (hV : pd_V aV aO)
    (hC : pd_CM w aO aP aD aN aT aR aH aW aG 15 → ∀ t M, post (-4) (fw, fp, fl, fk, fc, fg, aV, aO, aP, aD, aN, aT, aR, aH, aW, aG, aL, aK, aU, aE, t, M, tB, tO, tS)) (hB : ¬ pd_CM w aO aP aD aN aT aR aH aW aG 15 → ∀ r, pd_Be w aO aP aD aN aT aR aH aW aG r → ∀ t M, post (nI r) (fw, fp, fl, fk, fc, fg, aV, aO, aP, aD, aN, aT, aR, aH, aW, aG, aL, aK, aU, aE, t, M, tB, tO, tS)) : wpX_blame post (fw, fp, fl, fk, fc, fg, aV, aO, aP, aD, aN, aT, aR, aH, aW, aG, aL, aK, aU, aE, tA, tM, tB, tO, tS) := by
  have h16 : 2 ^ w ≤ 2 ^ 4 := Nat.pow_le_pow_right (by decide) hw4
  have hp : 0 < 2 ^ w := Nat.two_pow_pos w
  have e : ((1 : Int32) <<< (fw &&& 31)) - 1 = nI (2 ^ w - 1) := by
    rw [hw, pd_shl1 (by omega)]
    exact pk_sub (b := 1) hp
  unfold wpX_blame
  refine xp_note hw hw4 hI h4 hV (fun t M hM => nm_r e ⟨vp_in_nI (by omega) (by omega), ?_⟩)
  rw [nI_clamp (n := 2 ^ w - 1) (by omega)]
  have hA := (hM (2 ^ w - 1) (by omega)).trans (pd_CM15 hw4)
  refine br_c (fun z => ?_) (fun z => hC (hA.mp z) t M)
  have hn : ¬ pd_CM w aO aP aD aN aT aR aH aW aG 15 := fun q => hA.mpr q z
  have hw1 : 1 ≤ w := by
    cases w with
    | zero => exact absurd pd_CM0 hn
    | succ w => omega
  have h2 : 2 ^ 1 ≤ 2 ^ w := Nat.pow_le_pow_right (by decide) hw1
  refine ⟨_, xp_blameL hw4 hM (fun r hr => hB hn r hr t M) (2 ^ w - 1 - 1) 1 (2 ^ w - 1) (by omega) (by omega) (by omega) (by omega) (fun q => hn (pd_CMall hw4 q)) (Or.inl rfl) ?_⟩
  intro u a b c
  have : u = 2 ^ w - 1 := by omega
  subst this
  unfold pd_lt
  omega
theorem yp_blameL {post : Int32 → SY → Prop} {w : Nat} (hw : fw = nI w) (hw4 : w ≤ 4) (hI : pd_I aD aT aW) (h4 : pd_4 aO) (hO : pd_Op aO yA yM)
    (h : ∀ r, pd_Be w aO aP aD aN aT aR aH aW aG r → ∀ c, post (nI r) (fw, fp, fl, fk, yN, fg, yO, aO, aP, aD, aN, aT, aR, aH, aW, aG, yA, yM, c, aL, aK, aU, aE, yR)) :
    ∀ s b c, s < 2 ^ w - 1 → 1 ≤ b → b ≤ 2 ^ w - 1 → ¬ pd_CM w aO aP aD aN aT aR aH aW aG (nI b) → s < b → (∀ u, s < u → u ≤ 2 ^ w - 1 → ¬ pd_CM w aO aP aD aN aT aR aH aW aG (nI u) → ¬ pd_lt u b) → wY_blame_26 post (s + 1) (nI b) (nI s) fw fp fl fk yN fg yO aO aP aD aN aT aR aH aW aG yA yM c aL aK aU aE yR := by
  have h16 : 2 ^ w ≤ 2 ^ 4 := Nat.pow_le_pow_right (by decide) hw4
  have hp : 0 < 2 ^ w := Nat.two_pow_pos w
  have e1 : (1 : Int32) <<< (fw &&& 31) = nI (2 ^ w) := by rw [hw, pd_shl1 (by omega)]
  intro s
  induction s with
  | zero =>
    intro b c hs hb1 hb2 hb3 hb4 hu
    exact br_t (nI_le (a := 0) (b := 0) (by omega) (by omega)) (h b ⟨hb1, hb2, hb3, fun u a => hu u (by omega)⟩ c)
  | succ s ih =>
    intro b c hs hb1 hb2 hb3 hb4 hu
    have hbs := pd_bb (s + 1) (by omega)
    have hbl := pd_bb b (by omega)
    refine br_f (nI_nle (by omega) (by omega)) ?_
    rw [e1]
    refine br_f (nI_ge (by omega) (by omega)) (yp_bi (by omega) (yp_bi (by omega) ?_))
    refine pk_lt (pd_b b 4) (pd_b (s + 1) 4) (fun z => ?_) (fun z => ?_) rfl rfl (by omega) (by omega)
    · refine br_t rfl (nm_r (pk_m1 s) (ih b c (by omega) hb1 hb2 hb3 (by omega) ?_))
      intro u a d f
      by_cases q : u = s + 1
      · subst q; unfold pd_lt; omega
      · exact hu u (by omega) d f
    · refine br_f (by decide) (yp_cbm hw hw4 hI h4 hO (fun y c => br_f (by decide) (nm_r (pk_m1 s) (ih b c (by omega) hb1 hb2 hb3 (by omega) ?_))) (fun y c => br_t rfl (nm_r (pk_m1 s) (ih (s + 1) c (by omega) (by omega) (by omega) y (by omega) ?_))))
      · intro u a d f
        by_cases q : u = s + 1
        · subst q; exact absurd y f
        · exact hu u (by omega) d f
      · intro u a d f
        by_cases q : u = s + 1
        · subst q; unfold pd_lt; omega
        · have := hu u (by omega) d f
          unfold pd_lt at this ⊢
          omega
theorem yp_blame {post : Int32 → SY → Prop} {w : Nat} (hw : fw = nI w) (hw4 : w ≤ 4) (hI : pd_I aD aT aW) (h4 : pd_4 aO)
    (hC : pd_CM w aO aP aD aN aT aR aH aW aG 15 → ∀ a m c, post (-4) (fw, fp, fl, fk, yN, fg, yO, aO, aP, aD, aN, aT, aR, aH, aW, aG, a, m, c, aL, aK, aU, aE, yR)) (hB : ¬ pd_CM w aO aP aD aN aT aR aH aW aG 15 → ∀ r, pd_Be w aO aP aD aN aT aR aH aW aG r → ∀ a m c, post (nI r) (fw, fp, fl, fk, yN, fg, yO, aO, aP, aD, aN, aT, aR, aH, aW, aG, a, m, c, aL, aK, aU, aE, yR)) : wpY_blame post (fw, fp, fl, fk, yN, fg, yO, aO, aP, aD, aN, aT, aR, aH, aW, aG, yA, yM, yC, aL, aK, aU, aE, yR) := by
  have h16 : 2 ^ w ≤ 2 ^ 4 := Nat.pow_le_pow_right (by decide) hw4
  have hp : 0 < 2 ^ w := Nat.two_pow_pos w
  have e1 : (1 : Int32) <<< (fw &&& 31) = nI (2 ^ w) := by rw [hw, pd_shl1 (by omega)]
  unfold wpY_blame
  refine yp_list h4 (fun a m hO => yp_cbm hw hw4 hI h4 hO (fun y c => br_f (by decide) (hC y a m c)) (fun hn c => br_t rfl (nm_r e1 ⟨2 ^ w + 1, ?_⟩)))
  have hw1 : 1 ≤ w := by
    cases w with
    | zero => exact absurd pd_CM0 hn
    | succ w => omega
  have h2 : 2 ^ 1 ≤ 2 ^ w := Nat.pow_le_pow_right (by decide) hw1
  have hN : ¬ pd_CM w aO aP aD aN aT aR aH aW aG (nI (2 ^ w - 1)) := fun q => hn (pd_CMall hw4 q)
  have hb := pd_b15 w hw4
  have hb15 : pd_b 15 4 = 4 := by decide
  refine br_f (nI_nle hp (by omega)) ?_
  rw [e1]
  refine br_t (nI_le (Nat.le_refl _) (by omega)) (br_t rfl (nm_r (e' := nI (2 ^ w - 1)) ?_ ?_))
  · rw [show 2 ^ w = (2 ^ w - 1) + 1 by omega, pk_m1]; rfl
  obtain ⟨f, hf⟩ : ∃ f, 2 ^ w = f + 1 := ⟨2 ^ w - 1, by omega⟩
  rw [show 2 ^ w - 1 = f by omega] at hN hb ⊢
  rw [hf]
  refine br_f (nI_nle (by omega) (by omega)) ?_
  rw [e1]
  refine br_f (nI_ge (by omega) (by omega)) (yp_bi (s := f) (by omega) (yp_bi (s := 15) (by omega) (br_f (nI_nlt hb (by omega)) ?_)))
  refine br_f (by decide) (yp_cbm hw hw4 hI h4 hO (fun y c => absurd y hN) (fun y c => br_t rfl (nm_r (e' := nI (f - 1)) ?_ ?_)))
  · rw [show f = (f - 1) + 1 by omega, pk_m1]; rfl
  have fin := yp_blameL hw hw4 hI h4 hO (fun r hr c => hB hn r hr a m c) (f - 1) f c (by omega) (by omega) (by omega) hN (by omega) (fun u p q r => by
    have : u = f := by omega
    subst this
    unfold pd_lt
    omega)
  rw [show f - 1 + 1 = f by omega] at fin
  exact fin
end
section
/-! the order of groups, pure: ways of any length, groups, which group is next, all get placed -/
def gr_B (R : Nat → Nat → Prop) : Nat → Nat → Nat → Prop
  | 0 => fun x y => R x y
  | m + 1 => fun x y => gr_B R m x y ∨ (gr_B R m x m ∧ gr_B R m m y)
theorem gr_tr {R : Nat → Nat → Prop} : ∀ m x k y, k < m → gr_B R m x k → gr_B R m k y → gr_B R m x y := by
  intro m
  induction m with
  | zero => intro x k y hk; omega
  | succ m ih =>
    intro x k y hk a b
    by_cases z : k = m
    · subst z
      have a' : gr_B R k x k := by
        rcases a with a | a
        · exact a
        · exact a.1
      have b' : gr_B R k k y := by
        rcases b with b | b
        · exact b
        · exact b.2
      exact Or.inr ⟨a', b'⟩
    · have hk' : k < m := by omega
      rcases a with a | ⟨a1, a2⟩
      · rcases b with b | ⟨b1, b2⟩
        · exact Or.inl (ih x k y hk' a b)
        · exact Or.inr ⟨ih x k m hk' a b1, b2⟩
      · rcases b with b | ⟨b1, b2⟩
        · exact Or.inr ⟨a1, ih m k y hk' a2 b⟩
        · exact Or.inr ⟨a1, b2⟩
theorem gr_R {R : Nat → Nat → Prop} {x y : Nat} (h : R x y) : ∀ m, gr_B R m x y := by
  intro m
  induction m with
  | zero => exact h
  | succ m ih => exact Or.inl ih
theorem gr_fst {R : Nat → Nat → Prop} : ∀ m x y, gr_B R m x y → ∃ z, R x z := by
  intro m
  induction m with
  | zero => intro x y h; exact ⟨y, h⟩
  | succ m ih =>
    intro x y h
    rcases h with h | ⟨h, _⟩
    · exact ih x y h
    · exact ih x m h
theorem gr_lst {R : Nat → Nat → Prop} : ∀ m x y, gr_B R m x y → ∃ z, R z y := by
  intro m
  induction m with
  | zero => intro x y h; exact ⟨x, h⟩
  | succ m ih =>
    intro x y h
    rcases h with h | ⟨_, h⟩
    · exact ih x y h
    · exact ih m y h
theorem gr_least {R : Nat → Nat → Prop} {S : Nat → Prop} {x0 : Nat} (hS : ∀ x y, (x = x0 ∨ S x) → R x y → S y) : ∀ m x y, (x = x0 ∨ S x) → gr_B R m x y → S y := by
  intro m
  induction m with
  | zero => intro x y a b; exact hS x y a b
  | succ m ih =>
    intro x y a b
    rcases b with b | ⟨b, c⟩
    · exact ih x y a b
    · exact ih m y (Or.inr (ih x m a b)) c
/-- the group of x -/
def gr_G (R : Nat → Nat → Prop) (x y : Nat) : Prop := y = x ∨ (gr_B R 5 x y ∧ gr_B R 5 y x)
theorem gr_Gs {R : Nat → Nat → Prop} {x y : Nat} (h : gr_G R x y) : gr_G R y x := by
  rcases h with h | ⟨a, b⟩
  · exact Or.inl h.symm
  · exact Or.inr ⟨b, a⟩
theorem gr_Gt {R : Nat → Nat → Prop} {x y z : Nat} (hx : x < 5) (hy : y < 5) (hz : z < 5) (h : gr_G R x y) (h' : gr_G R y z) : gr_G R x z := by
  rcases h with h | ⟨a, b⟩
  · subst h; exact h'
  · rcases h' with h' | ⟨c, d⟩
    · subst h'; exact Or.inr ⟨a, b⟩
    · exact Or.inr ⟨gr_tr 5 x y z hy a c, gr_tr 5 z y x hy d b⟩
/-- x may come next -/
def gr_C (R : Nat → Nat → Prop) (V P : Nat → Prop) (q : Nat) : Prop := V q ∧ ¬ P q ∧ ∀ y, y < 5 → gr_B R 5 q y → gr_G R q y ∨ P y
theorem gr_nxe (C : Nat → Prop) : ∀ n, ∃ q, q ≤ n ∧ (∀ s, s < q → ¬ C s) ∧ (q < n → C q) := by
  intro n
  induction n with
  | zero => exact ⟨0, Nat.le_refl _, fun s hs => absurd hs (Nat.not_lt_zero _), fun h => absurd h (Nat.lt_irrefl _)⟩
  | succ n ih =>
    obtain ⟨q, a, b, c⟩ := ih
    by_cases z : q = n
    · subst z
      by_cases y : C q
      · exact ⟨q, by omega, b, fun _ => y⟩
      · refine ⟨q + 1, Nat.le_refl _, ?_, fun h => absurd h (Nat.lt_irrefl _)⟩
        intro s hs
        by_cases e : s = q
        · subst e; exact y
        · exact b s (by omega)
    · exact ⟨q, by omega, b, fun _ => c (by omega)⟩
noncomputable def gr_nx (C : Nat → Prop) : Nat := Classical.choose (gr_nxe C 5)
theorem gr_nx5 (C : Nat → Prop) : gr_nx C ≤ 5 := (Classical.choose_spec (gr_nxe C 5)).1
theorem gr_nxN (C : Nat → Prop) : ∀ s, s < gr_nx C → ¬ C s := (Classical.choose_spec (gr_nxe C 5)).2.1
theorem gr_nxC (C : Nat → Prop) : gr_nx C < 5 → C (gr_nx C) := (Classical.choose_spec (gr_nxe C 5)).2.2
theorem gr_nxu {C : Nat → Prop} {q : Nat} (h1 : q ≤ 5) (h2 : ∀ s, s < q → ¬ C s) (h3 : q < 5 → C q) : gr_nx C = q := by
  have a := gr_nx5 C
  have b := gr_nxN C
  have c := gr_nxC C
  rcases Nat.lt_trichotomy (gr_nx C) q with h | h | h
  · exact absurd (c (by omega)) (h2 _ h)
  · exact h
  · exact absurd (h3 (by omega)) (b _ h)
noncomputable def gr_fl (S : Nat → Prop) : Nat → List Nat
  | 0 => []
  | q + 1 => @ite (List Nat) (S q) (Classical.propDecidable _) (gr_fl S q ++ [q]) (gr_fl S q)
theorem gr_flP {S : Nat → Prop} {q : Nat} (h : S q) : gr_fl S (q + 1) = gr_fl S q ++ [q] := by rw [gr_fl, if_pos h]
theorem gr_flN {S : Nat → Prop} {q : Nat} (h : ¬ S q) : gr_fl S (q + 1) = gr_fl S q := by rw [gr_fl, if_neg h]
/-- what is placed, and the list, after r rounds -/
noncomputable def gr_st (R : Nat → Nat → Prop) (V : Nat → Prop) : Nat → (Nat → Prop) × List Nat
  | 0 => (fun _ => False, [])
  | r + 1 => (fun y => (gr_st R V r).1 y ∨ (y < 5 ∧ gr_nx (gr_C R V (gr_st R V r).1) < 5 ∧ gr_G R (gr_nx (gr_C R V (gr_st R V r).1)) y), (gr_st R V r).2 ++ gr_fl (fun y => gr_nx (gr_C R V (gr_st R V r).1) < 5 ∧ gr_G R (gr_nx (gr_C R V (gr_st R V r).1)) y) 5)
theorem gr_flm {S : Nat → Prop} : ∀ q x, x ∈ gr_fl S q → x < q ∧ S x := by
  intro q
  induction q with
  | zero => intro x hx; cases hx
  | succ q ih =>
    intro x hx
    by_cases h : S q
    · rw [gr_flP h, List.mem_append] at hx
      rcases hx with hx | hx
      · obtain ⟨a, b⟩ := ih x hx
        exact ⟨by omega, b⟩
      · rw [List.mem_singleton] at hx
        subst hx
        exact ⟨by omega, h⟩
    · rw [gr_flN h] at hx
      obtain ⟨a, b⟩ := ih x hx
      exact ⟨by omega, b⟩
theorem gr_flc {S : Nat → Prop} : ∀ q p, (p < q ∧ S p → (gr_fl S q).count p = 1) ∧ (¬ (p < q ∧ S p) → (gr_fl S q).count p = 0) := by
  intro q
  induction q with
  | zero => intro p; exact ⟨fun h => absurd h.1 (Nat.not_lt_zero _), fun _ => rfl⟩
  | succ q ih =>
    intro p
    obtain ⟨a, b⟩ := ih p
    by_cases h : S q
    · rw [gr_flP h, List.count_append]
      by_cases e : p = q
      · subst e
        have b' := b (fun h => Nat.lt_irrefl _ h.1)
        refine ⟨fun _ => by rw [b', List.count_singleton_self], fun y => absurd ⟨by omega, h⟩ y⟩
      · have e0 : List.count p [q] = 0 := by
          rw [List.count_eq_zero]
          intro hm
          exact e (List.mem_singleton.mp hm)
        rw [e0, Nat.add_zero]
        exact ⟨fun y => a ⟨by omega, y.2⟩, fun y => b (fun z => y ⟨by omega, z.2⟩)⟩
    · rw [gr_flN h]
      refine ⟨fun y => a ⟨?_, y.2⟩, fun y => b (fun z => y ⟨by omega, z.2⟩)⟩
      have : p ≠ q := fun e => h (e ▸ y.2)
      omega
theorem gr_cnt5 (f : Nat → Bool) : ∀ L : List Nat, (∀ x, x ∈ L → x < 5) → L.countP f = (if f 0 then L.count 0 else 0) + (if f 1 then L.count 1 else 0) + (if f 2 then L.count 2 else 0) + (if f 3 then L.count 3 else 0) + (if f 4 then L.count 4 else 0) := by
  intro L
  induction L with
  | nil => intro _; simp
  | cons a L ih =>
    intro h
    have i := ih (fun x hx => h x (List.mem_cons_of_mem _ hx))
    have ha := h a (List.mem_cons_self)
    rw [List.countP_cons, i]
    have : a = 0 ∨ a = 1 ∨ a = 2 ∨ a = 3 ∨ a = 4 := by omega
    generalize hc : (if f 0 = true then L.count 0 else 0) + (if f 1 = true then L.count 1 else 0) + (if f 2 = true then L.count 2 else 0) + (if f 3 = true then L.count 3 else 0) + (if f 4 = true then L.count 4 else 0) = c at *
    rcases this with e | e | e | e | e
    · subst e
      rw [List.count_cons_self, List.count_cons_of_ne (by decide), List.count_cons_of_ne (by decide), List.count_cons_of_ne (by decide), List.count_cons_of_ne (by decide)]
      cases z : f 0 <;> simp only [z] at hc ⊢ <;> simp at hc ⊢ <;> omega
    · subst e
      rw [List.count_cons_self, List.count_cons_of_ne (by decide), List.count_cons_of_ne (by decide), List.count_cons_of_ne (by decide), List.count_cons_of_ne (by decide)]
      cases z : f 1 <;> simp only [z] at hc ⊢ <;> simp at hc ⊢ <;> omega
    · subst e
      rw [List.count_cons_self, List.count_cons_of_ne (by decide), List.count_cons_of_ne (by decide), List.count_cons_of_ne (by decide), List.count_cons_of_ne (by decide)]
      cases z : f 2 <;> simp only [z] at hc ⊢ <;> simp at hc ⊢ <;> omega
    · subst e
      rw [List.count_cons_self, List.count_cons_of_ne (by decide), List.count_cons_of_ne (by decide), List.count_cons_of_ne (by decide), List.count_cons_of_ne (by decide)]
      cases z : f 3 <;> simp only [z] at hc ⊢ <;> simp at hc ⊢ <;> omega
    · subst e
      rw [List.count_cons_self, List.count_cons_of_ne (by decide), List.count_cons_of_ne (by decide), List.count_cons_of_ne (by decide), List.count_cons_of_ne (by decide)]
      cases z : f 4 <;> simp only [z] at hc ⊢ <;> simp at hc ⊢ <;> omega
theorem gr_len5 {L : List Nat} (h : ∀ x, x ∈ L → x < 5) : L.length = L.count 0 + L.count 1 + L.count 2 + L.count 3 + L.count 4 := by
  have e := gr_cnt5 (fun _ => true) L h
  simpa using e
/-- what holds after r rounds -/
theorem gr_inv {R : Nat → Nat → Prop} {V : Nat → Prop} (hV : ∀ x y, R x y → V x ∧ V y) : ∀ r,
    (∀ x, x ∈ (gr_st R V r).2 → x < 5) ∧ (∀ p, p < 5 → ((gr_st R V r).1 p → (gr_st R V r).2.count p = 1 ∧ V p) ∧ (¬ (gr_st R V r).1 p → (gr_st R V r).2.count p = 0)) ∧
    (∀ x y, x < 5 → y < 5 → (gr_st R V r).1 x → gr_G R x y → (gr_st R V r).1 y) := by
  intro r
  induction r with
  | zero => exact ⟨fun x hx => absurd hx List.not_mem_nil, fun p _ => ⟨fun h => False.elim h, fun _ => rfl⟩, fun x y _ _ h => False.elim h⟩
  | succ r ih =>
    obtain ⟨i1, i2, i3⟩ := ih
    have hq5 := gr_nx5 (gr_C R V (gr_st R V r).1)
    have hqC := gr_nxC (gr_C R V (gr_st R V r).1)
    rw [gr_st]
    generalize hP : (gr_st R V r).1 = P at *
    generalize hL : (gr_st R V r).2 = L at *
    generalize hq : gr_nx (gr_C R V P) = q at *
    have dj : ∀ p, p < 5 → q < 5 → gr_G R q p → ¬ P p := by
      intro p hp hq' hg hP'
      exact (hqC hq').2.1 (i3 p q hp hq' hP' (gr_Gs hg))
    refine ⟨?_, ?_, ?_⟩
    · intro x hx
      rw [List.mem_append] at hx
      rcases hx with hx | hx
      · exact i1 x hx
      · exact (gr_flm 5 x hx).1
    · intro p hp
      obtain ⟨j1, j2⟩ := i2 p hp
      obtain ⟨f1, f2⟩ := gr_flc (S := fun y => q < 5 ∧ gr_G R q y) 5 p
      dsimp only
      rw [List.count_append]
      constructor
      · rintro (h | ⟨_, h1, h2⟩)
        · have := f2 (fun z => dj p hp z.2.1 z.2.2 h)
          rw [this, (j1 h).1]
          exact ⟨rfl, (j1 h).2⟩
        · have a := j2 (dj p hp h1 h2)
          have b := f1 ⟨hp, h1, h2⟩
          rw [a, b]
          refine ⟨rfl, ?_⟩
          rcases h2 with e | ⟨h2, _⟩
          · rw [e]; exact (hqC h1).1
          · obtain ⟨z, hz⟩ := gr_lst 5 q p h2
            exact (hV z p hz).2
      · intro h
        have a := j2 (fun y => h (Or.inl y))
        have b := f2 (fun z => h (Or.inr ⟨hp, z.2⟩))
        rw [a, b]
    · intro x y hx hy h hg
      rcases h with h | ⟨_, h1, h2⟩
      · exact Or.inl (i3 x y hx hy h hg)
      · exact Or.inr ⟨hy, h1, gr_Gt h1 hx hy h2 hg⟩
noncomputable def gr_k (P : Nat → Prop) : Nat → Nat
  | 0 => 0
  | i + 1 => @ite Nat (P i) (Classical.propDecidable _) (gr_k P i + 1) (gr_k P i)
theorem gr_kP {P : Nat → Prop} {i : Nat} (h : P i) : gr_k P (i + 1) = gr_k P i + 1 := by rw [gr_k, if_pos h]
theorem gr_kN {P : Nat → Prop} {i : Nat} (h : ¬ P i) : gr_k P (i + 1) = gr_k P i := by rw [gr_k, if_neg h]
theorem gr_kle {A A' : Nat → Prop} : ∀ n, (∀ y, y < n → A y → A' y) → gr_k A n ≤ gr_k A' n := by
  intro n
  induction n with
  | zero => intro _; exact Nat.le_refl _
  | succ n ih =>
    intro h
    have i := ih (fun y hy => h y (by omega))
    by_cases a : A n
    · rw [gr_kP a, gr_kP (h n (by omega) a)]; omega
    · rw [gr_kN a]
      by_cases b : A' n
      · rw [gr_kP b]; omega
      · rw [gr_kN b]; exact i
theorem gr_klt {A A' : Nat → Prop} {z : Nat} (h1 : A' z) (h2 : ¬ A z) : ∀ n, z < n → (∀ y, y < n → A y → A' y) → gr_k A n < gr_k A' n := by
  intro n
  induction n with
  | zero => intro h; omega
  | succ n ih =>
    intro hz h
    by_cases e : z = n
    · subst e
      have i := gr_kle z (fun y hy => h y (by omega))
      rw [gr_kN h2, gr_kP h1]; omega
    · have i := ih (by omega) (fun y hy => h y (by omega))
      by_cases a : A n
      · rw [gr_kP a, gr_kP (h n (by omega) a)]; omega
      · rw [gr_kN a]
        by_cases b : A' n
        · rw [gr_kP b]; omega
        · rw [gr_kN b]; exact i
/-- something can come next while something is left -/
theorem gr_pro {R : Nat → Nat → Prop} {V P : Nat → Prop} (hV : ∀ x y, R x y → V x ∧ V y) : ∀ n x, x < 5 → V x → ¬ P x → gr_k (fun y => (y = x ∨ gr_B R 5 x y) ∧ ¬ P y) 5 < n → ∃ q, q < 5 ∧ gr_C R V P q := by
  intro n
  induction n with
  | zero => intro x _ _ _ h; omega
  | succ n ih =>
    intro x hx hVx hPx hm
    by_cases c : gr_C R V P x
    · exact ⟨x, hx, c⟩
    · have : ∃ y, y < 5 ∧ gr_B R 5 x y ∧ ¬ gr_G R x y ∧ ¬ P y := by
        apply Classical.byContradiction
        intro hn
        apply c
        refine ⟨hVx, hPx, fun y hy hb => ?_⟩
        apply Classical.byContradiction
        intro hg
        exact hn ⟨y, hy, hb, fun g => hg (Or.inl g), fun p => hg (Or.inr p)⟩
      obtain ⟨y, hy, hb, hg, hp⟩ := this
      obtain ⟨z, hz⟩ := gr_lst 5 x y hb
      refine ih y hy (hV z y hz).2 hp ?_
      have : gr_k (fun z => (z = y ∨ gr_B R 5 y z) ∧ ¬ P z) 5 < gr_k (fun z => (z = x ∨ gr_B R 5 x z) ∧ ¬ P z) 5 := by
        refine gr_klt (z := x) ⟨Or.inl rfl, hPx⟩ ?_ 5 hx ?_
        · rintro ⟨h | h, _⟩
          · exact hg (Or.inl h.symm)
          · exact hg (Or.inr ⟨hb, h⟩)
        · rintro w hw ⟨h | h, h'⟩
          · subst h; exact ⟨Or.inr hb, h'⟩
          · exact ⟨Or.inr (gr_tr 5 x y w hy hb h), h'⟩
      omega
theorem gr_run {R : Nat → Nat → Prop} {V : Nat → Prop} (hV : ∀ x y, R x y → V x ∧ V y) : ∀ r, (∀ p, p < 5 → V p → (gr_st R V r).1 p) ∨ r ≤ (gr_st R V r).2.length := by
  intro r
  induction r with
  | zero => exact Or.inr (Nat.zero_le _)
  | succ r ih =>
    by_cases all : ∀ p, p < 5 → V p → (gr_st R V r).1 p
    · exact Or.inl (fun p hp hv => Or.inl (all p hp hv))
    · rcases ih with ih | ih
      · exact absurd ih all
      · refine Or.inr ?_
        have : ∃ x, x < 5 ∧ V x ∧ ¬ (gr_st R V r).1 x := by
          apply Classical.byContradiction
          intro hn
          apply all
          intro p hp hv
          apply Classical.byContradiction
          intro h
          exact hn ⟨p, hp, hv, h⟩
        obtain ⟨x, hx, hv, hp⟩ := this
        obtain ⟨q, hq, hc⟩ := gr_pro hV _ x hx hv hp (Nat.lt_succ_self _)
        have hnx : gr_nx (gr_C R V (gr_st R V r).1) < 5 := by
          apply Classical.byContradiction
          intro h
          exact gr_nxN _ q (by omega) hc
        have hm := (gr_flc (S := fun y => gr_nx (gr_C R V (gr_st R V r).1) < 5 ∧ gr_G R (gr_nx (gr_C R V (gr_st R V r).1)) y) 5 (gr_nx (gr_C R V (gr_st R V r).1))).1 ⟨hnx, hnx, Or.inl rfl⟩
        have hl := List.count_le_length (a := gr_nx (gr_C R V (gr_st R V r).1)) (l := gr_fl (fun y => gr_nx (gr_C R V (gr_st R V r).1) < 5 ∧ gr_G R (gr_nx (gr_C R V (gr_st R V r).1)) y) 5)
        rw [gr_st]
        show r + 1 ≤ ((gr_st R V r).2 ++ gr_fl (fun y => gr_nx (gr_C R V (gr_st R V r).1) < 5 ∧ gr_G R (gr_nx (gr_C R V (gr_st R V r).1)) y) 5).length
        rw [List.length_append]
        omega
theorem gr_len {R : Nat → Nat → Prop} {V : Nat → Prop} (hV : ∀ x y, R x y → V x ∧ V y) (r : Nat) : (gr_st R V r).2.length ≤ 5 := by
  obtain ⟨i1, i2, _⟩ := gr_inv hV r
  have c : ∀ p, p < 5 → (gr_st R V r).2.count p ≤ 1 := by
    intro p hp
    by_cases h : (gr_st R V r).1 p
    · rw [((i2 p hp).1 h).1]; omega
    · rw [(i2 p hp).2 h]; omega
  rw [gr_len5 i1]
  have := c 0 (by omega)
  have := c 1 (by omega)
  have := c 2 (by omega)
  have := c 3 (by omega)
  have := c 4 (by omega)
  omega
theorem gr_end {R : Nat → Nat → Prop} {V : Nat → Prop} (hV : ∀ x y, R x y → V x ∧ V y) {p : Nat} (hp : p < 5) : (V p → (gr_st R V 5).2.count p = 1) ∧ (¬ V p → (gr_st R V 5).2.count p = 0) := by
  obtain ⟨i1, i2, _⟩ := gr_inv hV 5
  have c : ∀ p, p < 5 → (gr_st R V 5).2.count p ≤ 1 := by
    intro p hp
    by_cases h : (gr_st R V 5).1 p
    · rw [((i2 p hp).1 h).1]; omega
    · rw [(i2 p hp).2 h]; omega
  constructor
  · intro hv
    rcases gr_run hV 5 with h | h
    · exact ((i2 p hp).1 (h p hp hv)).1
    · rw [gr_len5 i1] at h
      have h0 := c 0 (by omega)
      have h1 := c 1 (by omega)
      have h2 := c 2 (by omega)
      have h3 := c 3 (by omega)
      have h4 := c 4 (by omega)
      have : p = 0 ∨ p = 1 ∨ p = 2 ∨ p = 3 ∨ p = 4 := by omega
      rcases this with e | e | e | e | e <;> subst e <;> omega
  · intro hv
    refine (i2 p hp).2 (fun h => hv ((i2 p hp).1 h).2)
end
section
/-! X's walks through the order of the plan -/
variable {fw fp fl fk fc fg yN yO : Int32} {aV aO aP aD aN aT aR aH aW aG aL aK aU aE tA tM tB tO tS yA yM yC yR : Nat → Int32}
/-- a mask of packages -/
def pd_MS (m : Int32) (P : Nat → Prop) : Prop := ∀ y, y < 32 → (bt m y = true ↔ (y < 5 ∧ P y))
theorem pd_MSc {m : Int32} {P P' : Nat → Prop} (h : pd_MS m P) (e : ∀ y, y < 5 → (P y ↔ P' y)) : pd_MS m P' := by
  intro y hy
  rw [h y hy]
  constructor
  · rintro ⟨a, b⟩; exact ⟨a, (e y a).mp b⟩
  · rintro ⟨a, b⟩; exact ⟨a, (e y a).mpr b⟩
theorem pd_MS0 {P : Nat → Prop} (h : ∀ y, y < 5 → ¬ P y) : pd_MS 0 P := by
  intro y hy
  rw [b_0]
  exact ⟨fun z => (by cases z), fun z => absurd z.2 (h y z.1)⟩
theorem pd_MSo {a b : Int32} {P P' : Nat → Prop} (h : pd_MS a P) (h' : pd_MS b P') : pd_MS (a ||| b) (fun y => P y ∨ P' y) := by
  intro y hy
  rw [b_or, Bool.or_eq_true, h y hy, h' y hy]
  constructor
  · rintro (⟨x, z⟩ | ⟨x, z⟩)
    · exact ⟨x, Or.inl z⟩
    · exact ⟨x, Or.inr z⟩
  · rintro ⟨x, z | z⟩
    · exact Or.inl ⟨x, z⟩
    · exact Or.inr ⟨x, z⟩
theorem pd_MS1 {o : Nat} (ho : o < 5) : pd_MS ((1 : Int32) <<< (nI o &&& 31)) (fun y => y = o) := by
  intro y hy
  rw [pd_bs o (by omega) hy, decide_eq_true_iff]
  exact ⟨fun z => ⟨by omega, z⟩, fun z => z.2⟩
theorem pd_MSd {a b : Int32} {P P' : Nat → Prop} (h : pd_MS a P) (h' : pd_MS b P') : pd_MS (a &&& (b ^^^ (-1))) (fun y => P y ∧ ¬ P' y) := by
  intro y hy
  rw [b_and, pd_bn b hy, Bool.and_eq_true, h y hy, Bool.not_eq_true', ← Bool.not_eq_true, h' y hy]
  constructor
  · rintro ⟨⟨x, z⟩, w⟩; exact ⟨x, z, fun q => w ⟨x, q⟩⟩
  · rintro ⟨x, z, w⟩; exact ⟨⟨x, z⟩, fun q => w q.2⟩
theorem pd_MSz {m : Int32} {P : Nat → Prop} (h : pd_MS m P) : m = 0 ↔ ∀ y, y < 5 → ¬ P y := by
  rw [pd_b0i]
  constructor
  · intro z y hy hp
    have := (h y (by omega)).mpr ⟨hy, hp⟩
    rw [z y (by omega)] at this
    cases this
  · intro z y hy
    cases q : bt m y
    · rfl
    · obtain ⟨a, b⟩ := (h y hy).mp q
      exact absurd b (z y a)
theorem pd_MSb0 {m : Int32} {P : Nat → Prop} (h : pd_MS m P) {j : Nat} (hj : j < 5) : ((m >>> (nI j &&& 31)) &&& 1) = 0 ↔ ¬ P j := by
  rw [pd_bit0 m (by omega), ← Bool.not_eq_true, h j (by omega)]
  exact ⟨fun z q => z ⟨hj, q⟩, fun z q => z q.2⟩
theorem pd_MSb1 {m : Int32} {P : Nat → Prop} (h : pd_MS m P) {j : Nat} (hj : j < 5) : ((m >>> (nI j &&& 31)) &&& 1) = 1 ↔ P j := by
  rw [pd_bit1 m (by omega), h j (by omega)]
  exact ⟨fun z => z.2, fun z => ⟨hj, z⟩⟩
theorem pd_MSx {m : Int32} {P P' : Nat → Prop} (h : pd_MS m P) (h' : pd_MS m P') {y : Nat} (hy : y < 5) : P y ↔ P' y :=
  ⟨fun z => ((h' y (by omega)).mp ((h y (by omega)).mpr ⟨hy, z⟩)).2, fun z => ((h y (by omega)).mp ((h' y (by omega)).mpr ⟨hy, z⟩)).2⟩
def pd_R (aO aD aN aT aL : Nat → Int32) (x y : Nat) : Prop := x < 5 ∧ y < 5 ∧ ¬ x = y ∧ ¬ aL x = 0 ∧ ¬ aL y = 0 ∧ ¬ aO (10 * x + (aL x).toNatClampNeg) = 0 ∧ ∃ i, i < (aD (10 * x + (aL x).toNatClampNeg)).toNatClampNeg ∧ ¬ aN (3 * (10 * x + (aL x).toNatClampNeg) + i) = 0 ∧ aT (3 * (10 * x + (aL x).toNatClampNeg) + i) = nI y
def pd_U (aL : Nat → Int32) (p : Nat) : Prop := ¬ aL p = 0
theorem pd_RU : ∀ x y, pd_R aO aD aN aT aL x y → pd_U aL x ∧ pd_U aL y := fun _ _ h => ⟨h.2.2.2.1, h.2.2.2.2.1⟩
/-- no demand of a version speaks of its own package -/
def pd_I2 (aD aT : Nat → Int32) : Prop := ∀ c, c < 50 → ∀ i, i < (aD c).toNatClampNeg → ¬ aT (3 * c + i) = nI (c / 10)
theorem xp_ro {post : Int32 → Prop} {x : Nat} (hx : x < 5) (hI : pd_I aD aT aW) (hI2 : pd_I2 aD aT) (h9 : pd_9 aL) (h : ∀ m, pd_MS m (pd_R aO aD aN aT aL x) → post m) : wpX_restsOn post (fw, fp, fl, fk, fc, fg, aV, aO, aP, aD, aN, aT, aR, aH, aW, aG, aL, aK, aU, aE, tA, tM, tB, tO, tS) (nI x) := by
  obtain ⟨v, hv, ev⟩ := h9 x hx
  have et : (aL x).toNatClampNeg = v := by rw [ev, nI_clamp (by omega)]
  have he : 10 * x + v < 50 := by omega
  obtain ⟨d, hd, hD⟩ := hI.1 _ he
  have key : ∀ e, e = 10 * x + v → ∀ g i, i + g = d → ∀ m, pd_MS m (fun y => ¬ aL y = 0 ∧ ∃ k, k < i ∧ ¬ aN (3 * e + k) = 0 ∧ aT (3 * e + k) = nI y) → (∀ m, pd_MS m (fun y => ¬ aL y = 0 ∧ ∃ k, k < d ∧ ¬ aN (3 * e + k) = 0 ∧ aT (3 * e + k) = nI y) → post m) → wX_restsOn_37 post (nI e) fw fp fl fk fc fg aV aO aP aD aN aT aR aH aW aG aL aK aU aE tA tM tB tO tS (g + 1) m (nI i) := by
    intro e ee
    rw [← ee] at hD he
    intro g
    induction g with
    | zero =>
      intro i hi m hm hpost
      refine ⟨vp_in_nI he (by omega), ?_⟩
      rw [nI_clamp (by omega), hD]
      have e2 : i = d := by omega
      rw [e2] at hm ⊢
      exact br_t (nI_le (Nat.le_refl _) (by omega)) (hpost m hm)
    | succ g ih =>
      intro i hi m hm hpost
      have hk : 3 * e + i < 150 := by omega
      obtain ⟨o, ho, eo⟩ := hI.2.1 (3 * e + i) hk
      refine ⟨vp_in_nI he (by omega), ?_⟩
      rw [nI_clamp (n := e) (by omega), hD]
      refine br_f (nI_ge (by omega) (by omega)) (nm_r (pd_l3 e i) ?_)
      rw [nI_clamp (n := 3 * e + i) (by omega), eo, nI_clamp (n := o) (by omega)]
      refine ⟨vp_in_nI hk (by omega), br_c (fun z => nm_r (nI_1 i) (ih (i + 1) (by omega) m ?_ hpost)) (fun z => ⟨vp_in_nI hk (by omega), vp_in_nI ho (by omega), br_c (fun z2 => nm_r (nI_1 i) (ih (i + 1) (by omega) m ?_ hpost)) (fun z2 => ⟨vp_in_nI hk (by omega), nm_e (nm_r (nI_1 i) (ih (i + 1) (by omega) _ ?_ hpost))⟩)⟩)⟩
      · refine pd_MSc hm (fun y hy => ?_)
        constructor
        · rintro ⟨a, k, b, c⟩; exact ⟨a, k, by omega, c⟩
        · rintro ⟨a, k, b, c1, c2⟩
          by_cases q : k = i
          · subst q; exact absurd z c1
          · exact ⟨a, k, by omega, c1, c2⟩
      · refine pd_MSc hm (fun y hy => ?_)
        constructor
        · rintro ⟨a, k, b, c⟩; exact ⟨a, k, by omega, c⟩
        · rintro ⟨a, k, b, c1, c2⟩
          by_cases q : k = i
          · subst q
            rw [eo, nI_eq (by omega) (by omega)] at c2
            subst c2
            exact absurd z2 a
          · exact ⟨a, k, by omega, c1, c2⟩
      · refine pd_MSc (pd_MSo hm (pd_MS1 ho)) (fun y hy => ?_)
        constructor
        · rintro (⟨a, k, b, c⟩ | a)
          · exact ⟨a, k, by omega, c⟩
          · subst a; exact ⟨z2, i, by omega, z, eo⟩
        · rintro ⟨a, k, b, c1, c2⟩
          by_cases q : k = i
          · subst q
            rw [eo, nI_eq (by omega) (by omega)] at c2
            exact Or.inr c2.symm
          · exact Or.inl ⟨a, k, by omega, c1, c2⟩
  refine ⟨vp_in_nI hx (by omega), nm_r (e' := nI (10 * x + v)) (by rw [nI_clamp (by omega), ev, pd_l10]) ⟨vp_in_nI hx (by omega), ?_⟩⟩
  rw [nI_clamp (n := x) (by omega), nI_clamp (n := 10 * x + v) (by omega)]
  refine br_c (fun z => h 0 (pd_MS0 (fun y _ q => q.2.2.2.1 z))) (fun z => ⟨vp_in_nI he (by omega), br_c (fun z2 => h 0 (pd_MS0 (fun y _ q => ?_))) (fun z2 => ⟨d + 1, key _ rfl d 0 (by omega) 0 (pd_MS0 (fun y _ q => ?_)) (fun m hm => h m (pd_MSc hm (fun y hy => ?_)))⟩)⟩)
  · have := q.2.2.2.2.2.1
    rw [et] at this
    exact this z2
  · obtain ⟨_, k, hk, _⟩ := q
    exact absurd hk (Nat.not_lt_zero _)
  · unfold pd_R
    rw [et, hD, nI_clamp (by omega)]
    constructor
    · rintro ⟨a, k, b, c1, c2⟩
      refine ⟨hx, hy, ?_, z, a, z2, k, b, c1, c2⟩
      intro q
      have := hI2 (10 * x + v) he k (by rw [hD, nI_clamp (by omega)]; exact b)
      rw [show (10 * x + v) / 10 = x by omega, c2, ← q] at this
      exact this rfl
    · rintro ⟨_, _, _, _, a, _, k, b, c1, c2⟩
      exact ⟨a, k, b, c1, c2⟩
theorem xp_fb {post : SX → Prop} (hI : pd_I aD aT aW) (hI2 : pd_I2 aD aT) (h9 : pd_9 aL) (h : ∀ b, (∀ x, x < 5 → pd_MS (b x) (gr_B (pd_R aO aD aN aT aL) 5 x)) → post (fw, fp, fl, fk, fc, fg, aV, aO, aP, aD, aN, aT, aR, aH, aW, aG, aL, aK, aU, aE, tA, tM, b, tO, tS)) : wpX_findBuilds post (fw, fp, fl, fk, fc, fg, aV, aO, aP, aD, aN, aT, aR, aH, aW, aG, aL, aK, aU, aE, tA, tM, tB, tO, tS) := by
  have inner : ∀ (J : Int32 → (Nat → Int32) → (Nat → Int32) → (Nat → Int32) → (Nat → Int32) → (Nat → Int32) → (Nat → Int32) → (Nat → Int32) → (Nat → Int32) → (Nat → Int32) → (Nat → Int32) → (Nat → Int32) → (Nat → Int32) → (Nat → Int32) → (Nat → Int32) → (Nat → Int32) → (Nat → Int32) → (Nat → Int32) → (Nat → Int32) → (Nat → Int32) → Prop) m, m < 5 → (∀ b, (∀ x, x < 5 → pd_MS (b x) (gr_B (pd_R aO aD aN aT aL) (m + 1) x)) → J (nI (m + 1)) aV aO aP aD aN aT aR aH aW aG aL aK aU aE tA tM b tO tS) → ∀ g q, q + g = 5 → ∀ b, (∀ x, x < q → pd_MS (b x) (gr_B (pd_R aO aD aN aT aL) (m + 1) x)) → (∀ x, q ≤ x → x < 5 → pd_MS (b x) (gr_B (pd_R aO aD aN aT aL) m x)) → wX_findBuilds_33 post J (nI m) fw fp fl fk fc fg (g + 1) (nI q) aV aO aP aD aN aT aR aH aW aG aL aK aU aE tA tM b tO tS := by
    intro J m hm hJ g
    induction g with
    | zero =>
      intro q hq b h1 h2
      have e : q = 5 := by omega
      subst e
      exact br_t (by decide) (nm_r (nI_1 m) (hJ b h1))
    | succ g ih =>
      intro q hq b h1 h2
      have hq5 : q < 5 := by omega
      have hbq := h2 q (Nat.le_refl _) hq5
      have hbm : pd_MS (b m) (gr_B (pd_R aO aD aN aT aL) m m) := by
        by_cases z : m < q
        · refine pd_MSc (h1 m z) (fun y hy => ?_)
          constructor
          · rintro (a | a)
            · exact a
            · exact a.2
          · exact Or.inl
        · exact h2 m (by omega) hm
      refine br_f (lt5' q hq5) ⟨vp_in_nI hq5 (by omega), ?_⟩
      rw [nI_clamp (n := q) (by omega), nI_clamp (n := m) (by omega), pd_MSb0 hbq hm]
      refine br_c (fun z => nm_r (nI_1 q) (ih (q + 1) (by omega) b ?_ (fun x a c => h2 x (by omega) c))) (fun z => ⟨vp_in_nI hq5 (by omega), vp_in_nI hm (by omega), vp_in_nI hq5 (by omega), nm_e (nm_r (nI_1 q) (ih (q + 1) (by omega) _ ?_ ?_))⟩)
      · intro x hx
        by_cases y : x = q
        · subst y
          refine pd_MSc hbq (fun y hy => ?_)
          constructor
          · exact Or.inl
          · rintro (a | a)
            · exact a
            · exact absurd a.1 z
        · exact h1 x (by omega)
      · intro x hx
        by_cases y : x = q
        · subst y
          rw [pk_us]
          refine pd_MSc (pd_MSo hbq hbm) (fun y hy => ?_)
          constructor
          · rintro (a | a)
            · exact Or.inl a
            · exact Or.inr ⟨Classical.not_not.mp z, a⟩
          · rintro (a | a)
            · exact Or.inl a
            · exact Or.inr a.2
        · rw [pk_un y]; exact h1 x (by omega)
      · intro x a c
        rw [pk_un (by omega)]
        exact h2 x (by omega) c
  have outer : ∀ g m, m + g = 5 → ∀ b, (∀ x, x < 5 → pd_MS (b x) (gr_B (pd_R aO aD aN aT aL) m x)) → wX_findBuilds_26 post fw fp fl fk fc fg (g + 1) (nI m) aV aO aP aD aN aT aR aH aW aG aL aK aU aE tA tM b tO tS := by
    intro g
    induction g with
    | zero =>
      intro m hm b hb
      have e : m = 5 := by omega
      subst e
      exact br_t (by decide) (h b hb)
    | succ g ih =>
      intro m hm b hb
      refine br_f (lt5' m (by omega)) ⟨6, inner _ m (by omega) (fun b' hb' => ih (m + 1) (by omega) b' hb') 5 0 rfl b (fun x hx => absurd hx (Nat.not_lt_zero _)) (fun x _ hx => hb x hx)⟩
  have first : ∀ g q, q + g = 5 → ∀ b, (∀ x, x < q → pd_MS (b x) (pd_R aO aD aN aT aL x)) → wX_findBuilds_2 post fw fp fl fk fc fg (g + 1) (nI q) aV aO aP aD aN aT aR aH aW aG aL aK aU aE tA tM b tO tS := by
    intro g
    induction g with
    | zero =>
      intro q hq b hb
      have e : q = 5 := by omega
      subst e
      exact br_t (by decide) ⟨6, outer 5 0 rfl b hb⟩
    | succ g ih =>
      intro q hq b hb
      have hq5 : q < 5 := by omega
      refine br_f (lt5' q hq5) (xp_ro hq5 hI hI2 h9 (fun m hm => ⟨vp_in_nI hq5 (by omega), ?_⟩))
      rw [nI_clamp (n := q) (by omega)]
      refine nm_e (nm_r (nI_1 q) (ih (q + 1) (by omega) _ ?_))
      intro x hx
      by_cases y : x = q
      · subst y; rw [pk_us]; exact hm
      · rw [pk_un y]; exact hb x (by omega)
  exact ⟨6, first 5 0 rfl tB (fun x hx => absurd hx (Nat.not_lt_zero _))⟩
theorem xp_go {post : Int32 → Prop} {R : Nat → Nat → Prop} {x : Nat} (hx : x < 5) (hb : ∀ x, x < 5 → pd_MS (tB x) (gr_B R 5 x)) (h : ∀ g, pd_MS g (gr_G R x) → post g) : wpX_groupOf post (fw, fp, fl, fk, fc, fg, aV, aO, aP, aD, aN, aT, aR, aH, aW, aG, aL, aK, aU, aE, tA, tM, tB, tO, tS) (nI x) := by
  have key : ∀ g q, q + g = 5 → ∀ m, pd_MS m (fun y => y = x ∨ (y < q ∧ gr_B R 5 x y ∧ gr_B R 5 y x)) → wX_groupOf_6 post (nI x) fw fp fl fk fc fg aV aO aP aD aN aT aR aH aW aG aL aK aU aE tA tM tB tO tS (g + 1) m (nI q) := by
    intro g
    induction g with
    | zero =>
      intro q hq m hm
      have e : q = 5 := by omega
      subst e
      refine br_t (by decide) (h m (pd_MSc hm (fun y hy => ?_)))
      constructor
      · rintro (a | a)
        · exact Or.inl a
        · exact Or.inr a.2
      · rintro (a | a)
        · exact Or.inl a
        · exact Or.inr ⟨hy, a⟩
    | succ g ih =>
      intro q hq m hm
      have hq5 : q < 5 := by omega
      refine br_f (lt5' q hq5) ⟨vp_in_nI hx (by omega), ?_⟩
      rw [nI_clamp (n := x) (by omega), nI_clamp (n := q) (by omega), pd_MSb0 (hb x hx) hq5, pd_MSb0 (hb q hq5) hx]
      refine br_c (fun z => nm_r (nI_1 q) (ih (q + 1) (by omega) m ?_)) (fun z => ⟨vp_in_nI hq5 (by omega), br_c (fun z2 => nm_r (nI_1 q) (ih (q + 1) (by omega) m ?_)) (fun z2 => nm_e (nm_r (nI_1 q) (ih (q + 1) (by omega) _ ?_)))⟩)
      · refine pd_MSc hm (fun y hy => ?_)
        constructor
        · rintro (a | ⟨a, b⟩)
          · exact Or.inl a
          · exact Or.inr ⟨by omega, b⟩
        · rintro (a | ⟨a, b⟩)
          · exact Or.inl a
          · by_cases e : y = q
            · subst e; exact absurd b.1 z
            · exact Or.inr ⟨by omega, b⟩
      · refine pd_MSc hm (fun y hy => ?_)
        constructor
        · rintro (a | ⟨a, b⟩)
          · exact Or.inl a
          · exact Or.inr ⟨by omega, b⟩
        · rintro (a | ⟨a, b⟩)
          · exact Or.inl a
          · by_cases e : y = q
            · subst e; exact absurd b.2 z2
            · exact Or.inr ⟨by omega, b⟩
      · refine pd_MSc (pd_MSo hm (pd_MS1 hq5)) (fun y hy => ?_)
        constructor
        · rintro ((a | ⟨a, b⟩) | a)
          · exact Or.inl a
          · exact Or.inr ⟨by omega, b⟩
          · subst a; exact Or.inr ⟨by omega, Classical.not_not.mp z, Classical.not_not.mp z2⟩
        · rintro (a | ⟨a, b⟩)
          · exact Or.inl (Or.inl a)
          · by_cases e : y = q
            · exact Or.inr e
            · exact Or.inl (Or.inr ⟨by omega, b⟩)
  refine nm_e ⟨6, key 5 0 rfl _ (pd_MSc (pd_MS1 hx) (fun y hy => ?_))⟩
  constructor
  · exact Or.inl
  · rintro (a | a)
    · exact a
    · exact absurd a.1 (Nat.not_lt_zero _)
theorem xp_ng {post : Int32 → Prop} {R : Nat → Nat → Prop} {P : Nat → Prop} {p : Int32} (hb : ∀ x, x < 5 → pd_MS (tB x) (gr_B R 5 x)) (hp : pd_MS p P) (h : ∀ g, pd_MS g (fun y => gr_nx (gr_C R (pd_U aL) P) < 5 ∧ gr_G R (gr_nx (gr_C R (pd_U aL) P)) y) → post g) : wpX_nextGroup post (fw, fp, fl, fk, fc, fg, aV, aO, aP, aD, aN, aT, aR, aH, aW, aG, aL, aK, aU, aE, tA, tM, tB, tO, tS) p := by
  have key : ∀ g q, q + g = 5 → (∀ s, s < q → ¬ gr_C R (pd_U aL) P s) → wX_nextGroup_2 post p fw fp fl fk fc fg aV aO aP aD aN aT aR aH aW aG aL aK aU aE tA tM tB tO tS (g + 1) (nI q) := by
    intro g
    induction g with
    | zero =>
      intro q hq hs
      have e : q = 5 := by omega
      subst e
      have eq := gr_nxu (C := gr_C R (pd_U aL) P) (Nat.le_refl 5) hs (fun z => absurd z (Nat.lt_irrefl _))
      refine br_t (by decide) (h 0 (pd_MS0 (fun y _ z => ?_)))
      rw [eq] at z
      exact absurd z.1 (Nat.lt_irrefl _)
    | succ g ih =>
      intro q hq hs
      have hq5 : q < 5 := by omega
      have nx : ¬ gr_C R (pd_U aL) P q → wX_nextGroup_2 post p fw fp fl fk fc fg aV aO aP aD aN aT aR aH aW aG aL aK aU aE tA tM tB tO tS (g + 1) (nI (q + 1)) := by
        intro z
        refine ih (q + 1) (by omega) (fun s hs' => ?_)
        by_cases e : s = q
        · subst e; exact z
        · exact hs s (by omega)
      refine br_f (lt5' q hq5) ⟨vp_in_nI hq5 (by omega), ?_⟩
      rw [nI_clamp (n := q) (by omega), pd_MSb0 hp hq5]
      refine br_c (fun z => nm_r (nI_1 q) (nx (fun c => c.1 z))) (fun z => br_c (fun z2 => xp_go hq5 hb (fun g hg => ⟨vp_in_nI hq5 (by omega), ?_⟩)) (fun z2 => nm_r (nI_1 q) (nx (fun c => z2 c.2.1))))
      have hz := pd_MSz (pd_MSd (hb q hq5) (pd_MSo hg hp))
      rw [hz]
      refine br_c (fun y => ?_) (fun y => nm_r (nI_1 q) (nx (fun c => y (fun k hk hk2 => hk2.2 (c.2.2 k hk hk2.1)))))
      have hC : gr_C R (pd_U aL) P q := ⟨z, z2, fun k hk hk2 => Classical.not_not.mp (fun n => y k hk ⟨hk2, n⟩)⟩
      have eq := gr_nxu (C := gr_C R (pd_U aL) P) (by omega) hs (fun _ => hC)
      rw [eq] at h
      exact h g (pd_MSc hg (fun k hk => ⟨fun w => ⟨hq5, w⟩, fun w => w.2⟩))
  exact ⟨6, key 5 0 rfl (fun s hs => absurd hs (Nat.not_lt_zero _))⟩
end
section
/-! X's orderPlan, Y's arrange: one list -/
variable {fw fp fl fk fc fg yN yO : Int32} {aV aO aP aD aN aT aR aH aW aG aL aK aU aE tA tM tB tO tS yA yM yC yR : Nat → Int32}
def pd_AL (a : Nat → Int32) (L : List Nat) : Prop := ∀ i, i < L.length → a i = nI (L.getD i 0)
theorem pd_ALa {a : Nat → Int32} {L : List Nat} (h : pd_AL a L) (q : Nat) : pd_AL (upd a L.length (nI q)) (L ++ [q]) := by
  intro i hi
  rw [List.length_append] at hi
  have e1 : [q].length = 1 := rfl
  by_cases z : i = L.length
  · subst z; rw [pk_us, pd_getD_mid]
  · rw [pk_un z, pd_getD_app (by omega)]
    exact h i (by omega)
theorem gr_fll {S : Nat → Prop} : ∀ n q, (gr_fl S q).length ≤ (gr_fl S (q + n)).length := by
  intro n
  induction n with
  | zero => intro q; exact Nat.le_refl _
  | succ n ih =>
    intro q
    have i := ih q
    by_cases h : S (q + n)
    · rw [← Nat.add_assoc, gr_flP h, List.length_append]; omega
    · rw [← Nat.add_assoc, gr_flN h]; exact i
theorem gr_dj {R : Nat → Nat → Prop} {V : Nat → Prop} (hV : ∀ x y, R x y → V x ∧ V y) (r : Nat) {p : Nat} (hp : p < 5) (h5 : gr_nx (gr_C R V (gr_st R V r).1) < 5) (hg : gr_G R (gr_nx (gr_C R V (gr_st R V r).1)) p) : ¬ (gr_st R V r).1 p := by
  intro h
  exact (gr_nxC _ h5).2.1 ((gr_inv hV r).2.2 p _ hp h5 h (gr_Gs hg))
theorem xp_op {post : Int32 → SX → Prop} (hI : pd_I aD aT aW) (hI2 : pd_I2 aD aT) (h9 : pd_9 aL) (h : ∀ b a, pd_AL a (gr_st (pd_R aO aD aN aT aL) (pd_U aL) 5).2 → post (nI (gr_st (pd_R aO aD aN aT aL) (pd_U aL) 5).2.length) (fw, fp, fl, fk, fc, fg, aV, aO, aP, aD, aN, aT, aR, aH, aW, aG, aL, aK, aU, aE, tA, tM, b, a, tS)) : wpX_orderPlan post (fw, fp, fl, fk, fc, fg, aV, aO, aP, aD, aN, aT, aR, aH, aW, aG, aL, aK, aU, aE, tA, tM, tB, tO, tS) := by
  have inner : ∀ (J : Int32 → Int32 → Int32 → (Nat → Int32) → (Nat → Int32) → (Nat → Int32) → (Nat → Int32) → (Nat → Int32) → (Nat → Int32) → (Nat → Int32) → (Nat → Int32) → (Nat → Int32) → (Nat → Int32) → (Nat → Int32) → (Nat → Int32) → (Nat → Int32) → (Nat → Int32) → (Nat → Int32) → (Nat → Int32) → (Nat → Int32) → (Nat → Int32) → (Nat → Int32) → Prop) (b : Nat → Int32) (x1 x3 x4 : Int32) (S : Nat → Prop) (L : List Nat), pd_MS x4 S → (L ++ gr_fl S 5).length ≤ 5 → (∀ a, pd_AL a (L ++ gr_fl S 5) → J (x1 ||| x4) (nI (L ++ gr_fl S 5).length) (x3 + 1) aV aO aP aD aN aT aR aH aW aG aL aK aU aE tA tM b a tS) → ∀ g q, q + g = 5 → ∀ a, pd_AL a (L ++ gr_fl S q) → wX_orderPlan_29 post J x1 x3 x4 fw fp fl fk fc fg (g + 1) (nI (L ++ gr_fl S q).length) (nI q) aV aO aP aD aN aT aR aH aW aG aL aK aU aE tA tM b a tS := by
    intro J b x1 x3 x4 S L hm hlen hJ g
    induction g with
    | zero =>
      intro q hq a ha
      have e : q = 5 := by omega
      subst e
      exact br_t (by decide) (nm_e (nm_e (hJ a ha)))
    | succ g ih =>
      intro q hq a ha
      have hq5 : q < 5 := by omega
      refine br_f (lt5' q hq5) ?_
      rw [pd_MSb0 hm hq5]
      refine br_c (fun z => nm_r (nI_1 q) ?_) (fun z => ?_)
      · have i2 := ih (q + 1) (by omega) a (by rw [gr_flN z]; exact ha)
        rw [gr_flN z] at i2
        exact i2
      · have z' := Classical.not_not.mp z
        have hl := gr_fll (S := S) (5 - (q + 1)) (q + 1)
        rw [show q + 1 + (5 - (q + 1)) = 5 by omega, gr_flP z', List.length_append] at hl
        rw [List.length_append] at hlen
        have e1 : [q].length = 1 := rfl
        have hb5 : (L ++ gr_fl S q).length < 5 := by rw [List.length_append]; omega
        rw [nI_clamp (n := (L ++ gr_fl S q).length) (by omega)]
        refine ⟨vp_in_nI hb5 (by omega), nm_e (nm_r (nI_1 _) (nm_r (nI_1 q) ?_))⟩
        have e2 : L ++ gr_fl S (q + 1) = (L ++ gr_fl S q) ++ [q] := by rw [gr_flP z', List.append_assoc]
        have i2 := ih (q + 1) (by omega) (upd a (L ++ gr_fl S q).length (nI q)) (by rw [e2]; exact pd_ALa ha q)
        rw [e2, List.length_append (bs := [q])] at i2
        exact i2
  unfold wpX_orderPlan
  refine xp_fb hI hI2 h9 (fun b hb => ?_)
  have hV := pd_RU (aO := aO) (aD := aD) (aN := aN) (aT := aT) (aL := aL)
  have key : ∀ g r, r + g = 5 → ∀ x1 a, pd_MS x1 (gr_st (pd_R aO aD aN aT aL) (pd_U aL) r).1 → pd_AL a (gr_st (pd_R aO aD aN aT aL) (pd_U aL) r).2 → wX_orderPlan_10 post fw fp fl fk fc fg (g + 1) x1 (nI (gr_st (pd_R aO aD aN aT aL) (pd_U aL) r).2.length) (nI r) aV aO aP aD aN aT aR aH aW aG aL aK aU aE tA tM b a tS := by
    intro g
    induction g with
    | zero =>
      intro r hr x1 a hm ha
      have e : r = 5 := by omega
      subst e
      exact br_t (by decide) (h b a ha)
    | succ g ih =>
      intro r hr x1 a hm ha
      refine br_f (lt5' r (by omega)) (xp_ng hb hm (fun m hmm => nm_e ⟨6, ?_⟩))
      have hlen := gr_len hV (r + 1)
      have hm4 : pd_MS (m &&& (x1 ^^^ (-1))) (fun y => gr_nx (gr_C (pd_R aO aD aN aT aL) (pd_U aL) (gr_st (pd_R aO aD aN aT aL) (pd_U aL) r).1) < 5 ∧ gr_G (pd_R aO aD aN aT aL) (gr_nx (gr_C (pd_R aO aD aN aT aL) (pd_U aL) (gr_st (pd_R aO aD aN aT aL) (pd_U aL) r).1)) y) := by
        refine pd_MSc (pd_MSd hmm hm) (fun y hy => ?_)
        exact ⟨fun z => z.1, fun z => ⟨z, gr_dj hV r hy z.1 z.2⟩⟩
      have hJ : ∀ a', pd_AL a' (gr_st (pd_R aO aD aN aT aL) (pd_U aL) (r + 1)).2 → wX_orderPlan_10 post fw fp fl fk fc fg (g + 1) (x1 ||| (m &&& (x1 ^^^ (-1)))) (nI (gr_st (pd_R aO aD aN aT aL) (pd_U aL) (r + 1)).2.length) (nI r + 1) aV aO aP aD aN aT aR aH aW aG aL aK aU aE tA tM b a' tS := by
        intro a' ha'
        rw [nI_1]
        refine ih (r + 1) (by omega) _ a' ?_ ha'
        refine pd_MSc (pd_MSo hm hm4) (fun y hy => ?_)
        constructor
        · rintro (z | z)
          · exact Or.inl z
          · exact Or.inr ⟨hy, z⟩
        · rintro (z | z)
          · exact Or.inl z
          · exact Or.inr z.2
      have k0 := inner (wX_orderPlan_10 post fw fp fl fk fc fg (g + 1)) b x1 (nI r) _ _ (gr_st (pd_R aO aD aN aT aL) (pd_U aL) r).2 hm4 hlen hJ 5 0 rfl a (by rw [show gr_fl _ 0 = [] from rfl, List.append_nil]; exact ha)
      rw [show gr_fl _ 0 = [] from rfl, List.append_nil] at k0
      exact k0
  exact ⟨6, key 5 0 rfl 0 tO (pd_MS0 (fun y _ z => z)) (fun i hi => absurd hi (Nat.not_lt_zero _))⟩
theorem yp_ro {post : Int32 → Prop} {x y : Nat} (hx : x < 5) (hy : y < 5) (hI : pd_I aD aT aW) (h9 : pd_9 aL) (h1 : pd_R aO aD aN aT aL x y → post 1) (h0 : ¬ pd_R aO aD aN aT aL x y → post 0) : wpY_rests post (fw, fp, fl, fk, yN, fg, yO, aO, aP, aD, aN, aT, aR, aH, aW, aG, yA, yM, yC, aL, aK, aU, aE, yR) (nI x) (nI y) := by
  obtain ⟨v, hv, ev⟩ := h9 x hx
  have et : (aL x).toNatClampNeg = v := by rw [ev, nI_clamp (by omega)]
  have he : 10 * x + v < 50 := by omega
  obtain ⟨d, hd, hD⟩ := hI.1 _ he
  have key : ∀ e, e = 10 * x + v → ∀ g i, i + g = d → (∀ k, k < i → ¬ (¬ aN (3 * e + k) = 0 ∧ aT (3 * e + k) = nI y)) → ((∃ k, k < d ∧ ¬ aN (3 * e + k) = 0 ∧ aT (3 * e + k) = nI y) → post 1) → (¬ (∃ k, k < d ∧ ¬ aN (3 * e + k) = 0 ∧ aT (3 * e + k) = nI y) → post 0) → wY_rests_51 post (nI y) (nI e) fw fp fl fk yN fg yO aO aP aD aN aT aR aH aW aG yA yM yC aL aK aU aE yR (g + 1) (nI (3 * e + i)) := by
    intro e ee
    rw [← ee] at hD he
    intro g
    induction g with
    | zero =>
      intro i hi hk h1 h0
      refine ⟨vp_in_nI he (by omega), ?_⟩
      rw [nI_clamp (by omega), hD, pd_l3]
      exact br_t (nI_le (by omega) (by omega)) (h0 (fun ⟨k, a, b⟩ => hk k (by omega) b))
    | succ g ih =>
      intro i hi hk h1 h0
      have hk5 : 3 * e + i < 150 := by omega
      refine ⟨vp_in_nI he (by omega), ?_⟩
      rw [nI_clamp (n := e) (by omega), hD, pd_l3]
      refine br_f (nI_ge (by omega) (by omega)) ?_
      rw [nI_clamp (n := 3 * e + i) (by omega)]
      refine ⟨vp_in_nI hk5 (by omega), br_c (fun z => nm_r (nI_1 _) (ih (i + 1) (by omega) ?_ h1 h0)) (fun z => ⟨vp_in_nI hk5 (by omega), br_c (fun z2 => h1 ⟨i, by omega, z, z2⟩) (fun z2 => nm_r (nI_1 _) (ih (i + 1) (by omega) ?_ h1 h0))⟩)⟩
      · intro k hk'
        by_cases q : k = i
        · subst q; exact fun a => a.1 z
        · exact hk k (by omega)
      · intro k hk'
        by_cases q : k = i
        · subst q; exact fun a => z2 a.2
        · exact hk k (by omega)
  refine ⟨vp_in_nI hx (by omega), nm_r (e' := nI (10 * x + v)) (by rw [nI_clamp (by omega), ev, pd_l10]) ?_⟩
  rw [nI_clamp (n := x) (by omega), nI_clamp (n := y) (by omega), nI_clamp (n := 10 * x + v) (by omega), nI_eq (by omega) (by omega)]
  refine br_c (fun z => h0 (fun q => q.2.2.1 z)) (fun z => ⟨vp_in_nI hx (by omega), br_c (fun z2 => h0 (fun q => q.2.2.2.1 z2)) (fun z2 => ⟨vp_in_nI hy (by omega), br_c (fun z3 => h0 (fun q => q.2.2.2.2.1 z3)) (fun z3 => ⟨vp_in_nI he (by omega), br_c (fun z4 => h0 (fun q => ?_)) (fun z4 => nm_r (e' := nI (3 * (10 * x + v) + 0)) (pk_mul 3 _) ⟨d + 1, key _ rfl d 0 (by omega) (fun k hk => absurd hk (Nat.not_lt_zero _)) (fun q => h1 ?_) (fun q => h0 (fun q2 => q ?_))⟩)⟩)⟩)⟩)
  · have := q.2.2.2.2.2.1
    rw [et] at this
    exact this z4
  · unfold pd_R
    rw [et, hD, nI_clamp (by omega)]
    exact ⟨hx, hy, z, z2, z3, z4, q⟩
  · have := q2.2.2.2.2.2.2
    rw [et, hD, nI_clamp (by omega)] at this
    exact this
theorem gr_kn (S : Nat → Prop) : ∀ n, gr_k S n ≤ n := by
  intro n
  induction n with
  | zero => exact Nat.le_refl _
  | succ n ih =>
    by_cases h : S n
    · rw [gr_kP h]; omega
    · rw [gr_kN h]; omega
theorem gr_kall {S : Nat → Prop} (h : 5 ≤ gr_k S 5) : ∀ y, y < 5 → S y := by
  intro y hy
  apply Classical.byContradiction
  intro hn
  have a := gr_klt (A := S) (A' := fun _ => True) (z := y) trivial hn 5 hy (fun _ _ _ => trivial)
  have b := gr_kn (fun _ => True) 5
  omega
theorem yp_be {post : Int32 → Prop} {x : Nat} (hx : x < 5) (hI : pd_I aD aT aW) (h9 : pd_9 aL) (h : ∀ m, pd_MS m (gr_B (pd_R aO aD aN aT aL) 5 x) → post m) : wpY_below post (fw, fp, fl, fk, yN, fg, yO, aO, aP, aD, aN, aT, aR, aH, aW, aG, yA, yM, yC, aL, aK, aU, aE, yR) (nI x) := by
  have inner : ∀ (J : Int32 → Int32 → Prop) (x3 : Int32) (S0 : Nat → Prop),
      (∀ m S, pd_MS m S → (∀ y, y < 5 → S0 y → S y) → (∀ y, y < 5 → S y → gr_B (pd_R aO aD aN aT aL) 5 x y) → ((∀ a b, a < 5 → b < 5 → (a = x ∨ S0 a) → pd_R aO aD aN aT aL a b → S0 b) → ∀ y, y < 5 → S y → S0 y) → ((∀ y, y < 5 → S y → S0 y) → ∀ a b, a < 5 → b < 5 → (a = x ∨ S0 a) → pd_R aO aD aN aT aL a b → S0 b) → J m (x3 + 1)) →
      ∀ g e, e + g = 25 → ∀ m S, pd_MS m S → (∀ y, y < 5 → S0 y → S y) → (∀ y, y < 5 → S y → gr_B (pd_R aO aD aN aT aL) 5 x y) → ((∀ a b, a < 5 → b < 5 → (a = x ∨ S0 a) → pd_R aO aD aN aT aL a b → S0 b) → ∀ y, y < 5 → S y → S0 y) → ((∀ y, y < 5 → S y → S0 y) → ∀ a b, a < 5 → b < 5 → 5 * a + b < e → (a = x ∨ S0 a) → pd_R aO aD aN aT aL a b → S0 b) → wY_below_12 post J (nI x) x3 fw fp fl fk yN fg yO aO aP aD aN aT aR aH aW aG yA yM yC aL aK aU aE yR (g + 1) m (nI e) := by
    intro J x3 S0 hJ g
    induction g with
    | zero =>
      intro e he m S hm i1 i2 i3 i4
      have e5 : e = 25 := by omega
      subst e5
      exact br_t (by decide) (nm_e (hJ m S hm i1 i2 i3 (fun z a b ha hb => i4 z a b ha hb (by omega))))
    | succ g ih =>
      intro e he m S hm i1 i2 i3 i4
      have ha5 : e / 5 < 5 := by omega
      have hb5 : e % 5 < 5 := by omega
      have ed : nI e / 5 = nI (e / 5) := pk_div (d := 5) (by omega) (by omega) (by omega)
      have em : nI e - nI e / 5 * 5 = nI (e % 5) := pk_rem (d := 5) (by omega) (by omega) (by omega)
      have yes : (e / 5 = x ∨ S (e / 5)) → wY_below_41 post J (wY_below_12 post J (nI x) x3 fw fp fl fk yN fg yO aO aP aD aN aT aR aH aW aG yA yM yC aL aK aU aE yR (g + 1)) (nI x) m x3 (nI e) (nI (e / 5)) fw fp fl fk yN fg yO aO aP aD aN aT aR aH aW aG yA yM yC aL aK aU aE yR := by
        intro hor
        refine ⟨by decide, ?_⟩
        rw [em]
        refine yp_ro ha5 hb5 hI h9 (fun hR => br_f (by decide) ⟨by decide, nm_e (nm_r (nI_1 e) (ih (e + 1) (by omega) _ _ (pd_MSo hm (pd_MS1 hb5)) ?_ ?_ ?_ ?_))⟩) (fun hR => br_t rfl (nm_r (nI_1 e) (ih (e + 1) (by omega) m S hm i1 i2 i3 ?_)))
        · intro y hy z
          exact Or.inl (i1 y hy z)
        · rintro y hy (z | z)
          · exact i2 y hy z
          · subst z
            rcases hor with q | q
            · rw [q] at hR; exact gr_R hR 5
            · exact gr_tr 5 x (e / 5) _ ha5 (i2 _ ha5 q) (gr_R hR 5)
        · rintro hc y hy (z | z)
          · exact i3 hc y hy z
          · subst z
            refine hc (e / 5) (e % 5) ha5 hb5 ?_ hR
            rcases hor with q | q
            · exact Or.inl q
            · exact Or.inr (i3 hc _ ha5 q)
        · intro hs a b ha hb hab hor2 hR2
          by_cases q : 5 * a + b < e
          · exact i4 (fun y hy z => hs y hy (Or.inl z)) a b ha hb q hor2 hR2
          · exact hs b hb (Or.inr (by omega))
        · intro hs a b ha hb hab hor2 hR2
          by_cases q : 5 * a + b < e
          · exact i4 hs a b ha hb q hor2 hR2
          · have e1 : a = e / 5 := by omega
            have e2 : b = e % 5 := by omega
            subst e1 e2
            exact absurd hR2 hR
      refine br_f (nI_ge (b := 25) (by omega) (by decide)) ⟨by decide, nm_r ed ?_⟩
      rw [nI_eq (by omega) (by omega), pd_MSb1 hm ha5]
      refine br_c (fun z => yes (Or.inl z)) (fun z => br_c (fun z2 => yes (Or.inr z2)) (fun z2 => nm_r (nI_1 e) (ih (e + 1) (by omega) m S hm i1 i2 i3 ?_)))
      intro hs a b ha hb hab hor2 hR2
      by_cases q : 5 * a + b < e
      · exact i4 hs a b ha hb q hor2 hR2
      · have e1 : a = e / 5 := by omega
        subst e1
        rcases hor2 with w | w
        · exact absurd w z
        · exact absurd (i1 _ ha5 w) z2
  have key : ∀ g r, r + g = 5 → ∀ m S, pd_MS m S → (∀ y, y < 5 → S y → gr_B (pd_R aO aD aN aT aL) 5 x y) → ((∀ a b, a < 5 → b < 5 → (a = x ∨ S a) → pd_R aO aD aN aT aL a b → S b) ∨ r ≤ gr_k S 5) → wY_below_4 post (nI x) fw fp fl fk yN fg yO aO aP aD aN aT aR aH aW aG yA yM yC aL aK aU aE yR (g + 1) m (nI r) := by
    intro g
    induction g with
    | zero =>
      intro r hr m S hm i1 i2
      have e : r = 5 := by omega
      subst e
      have hc : ∀ a b, a < 5 → b < 5 → (a = x ∨ S a) → pd_R aO aD aN aT aL a b → S b := by
        rcases i2 with i2 | i2
        · exact i2
        · intro a b ha hb _ _; exact gr_kall i2 b hb
      refine br_t (by decide) (h m (pd_MSc hm (fun y hy => ⟨i1 y hy, fun z => ?_⟩)))
      have := gr_least (R := pd_R aO aD aN aT aL) (S := fun y => y < 5 ∧ S y) (x0 := x) (fun a b hab hR => ⟨hR.2.1, hc a b hR.1 hR.2.1 (hab.elim Or.inl (fun q => Or.inr q.2)) hR⟩) 5 x y (Or.inl rfl) z
      exact this.2
    | succ g ih =>
      intro r hr m S hm i1 i2
      refine br_f (lt5' r (by omega)) ⟨26, inner _ (nI r) S (fun m' S' hm' j1 j2 j3 j4 => ?_) 25 0 rfl m S hm (fun _ _ z => z) i1 (fun _ _ _ z => z) (fun _ a b _ _ hab => absurd hab (Nat.not_lt_zero _))⟩
      rw [nI_1]
      refine ih (r + 1) (by omega) m' S' hm' j2 ?_
      by_cases cl : ∀ a b, a < 5 → b < 5 → (a = x ∨ S a) → pd_R aO aD aN aT aL a b → S b
      · refine Or.inl (fun a b ha hb hor hR => j1 b hb (cl a b ha hb ?_ hR))
        rcases hor with q | q
        · exact Or.inl q
        · exact Or.inr (j3 cl a ha q)
      · refine Or.inr ?_
        have hne : ∃ y, y < 5 ∧ S' y ∧ ¬ S y := by
          apply Classical.byContradiction
          intro hn
          apply cl
          refine j4 (fun y hy z => ?_)
          apply Classical.byContradiction
          intro w
          exact hn ⟨y, hy, z, w⟩
        obtain ⟨y, hy, a, b⟩ := hne
        have := gr_klt (A := S) (A' := S') (z := y) a b 5 hy j1
        rcases i2 with i2 | i2
        · exact absurd i2 cl
        · omega
  exact ⟨6, key 5 0 rfl 0 (fun _ => False) (pd_MS0 (fun y _ z => z)) (fun y _ z => False.elim z) (Or.inr (Nat.zero_le _))⟩
theorem yp_gp {post : Int32 → Prop} {x : Nat} (hx : x < 5) (hI : pd_I aD aT aW) (h9 : pd_9 aL) (h : ∀ g, pd_MS g (gr_G (pd_R aO aD aN aT aL) x) → post g) : wpY_group post (fw, fp, fl, fk, yN, fg, yO, aO, aP, aD, aN, aT, aR, aH, aW, aG, yA, yM, yC, aL, aK, aU, aE, yR) (nI x) := by
  have key : ∀ g q, q + g = 5 → ∀ m, pd_MS m (fun y => y = x ∨ (y < q ∧ gr_B (pd_R aO aD aN aT aL) 5 x y ∧ gr_B (pd_R aO aD aN aT aL) 5 y x)) → wY_group_6 post (nI x) fw fp fl fk yN fg yO aO aP aD aN aT aR aH aW aG yA yM yC aL aK aU aE yR (g + 1) m (nI q) := by
    intro g
    induction g with
    | zero =>
      intro q hq m hm
      have e : q = 5 := by omega
      subst e
      refine br_t (by decide) (h m (pd_MSc hm (fun y hy => ?_)))
      constructor
      · rintro (a | a)
        · exact Or.inl a
        · exact Or.inr a.2
      · rintro (a | a)
        · exact Or.inl a
        · exact Or.inr ⟨hy, a⟩
    | succ g ih =>
      intro q hq m hm
      have hq5 : q < 5 := by omega
      have nx : ¬ (gr_B (pd_R aO aD aN aT aL) 5 x q ∧ gr_B (pd_R aO aD aN aT aL) 5 q x) → wY_group_6 post (nI x) fw fp fl fk yN fg yO aO aP aD aN aT aR aH aW aG yA yM yC aL aK aU aE yR (g + 1) m (nI (q + 1)) := by
        intro z
        refine ih (q + 1) (by omega) m (pd_MSc hm (fun y hy => ?_))
        constructor
        · rintro (a | ⟨a, b⟩)
          · exact Or.inl a
          · exact Or.inr ⟨by omega, b⟩
        · rintro (a | ⟨a, b⟩)
          · exact Or.inl a
          · by_cases e : y = q
            · subst e; exact absurd b z
            · exact Or.inr ⟨by omega, b⟩
      refine br_f (lt5' q hq5) (yp_be hx hI h9 (fun m1 hm1 => ?_))
      rw [pd_MSb1 hm1 hq5]
      refine br_c (fun z => yp_be hq5 hI h9 (fun m2 hm2 => ?_)) (fun z => nm_r (nI_1 q) (nx (fun a => z a.1)))
      rw [pd_MSb1 hm2 hx]
      refine br_c (fun z2 => nm_e (nm_r (nI_1 q) (ih (q + 1) (by omega) _ (pd_MSc (pd_MSo hm (pd_MS1 hq5)) (fun y hy => ?_))))) (fun z2 => nm_r (nI_1 q) (nx (fun a => z2 a.2)))
      constructor
      · rintro ((a | ⟨a, b⟩) | a)
        · exact Or.inl a
        · exact Or.inr ⟨by omega, b⟩
        · subst a; exact Or.inr ⟨by omega, z, z2⟩
      · rintro (a | ⟨a, b⟩)
        · exact Or.inl (Or.inl a)
        · by_cases e : y = q
          · exact Or.inr e
          · exact Or.inl (Or.inr ⟨by omega, b⟩)
  refine nm_e ⟨6, key 5 0 rfl _ (pd_MSc (pd_MS1 hx) (fun y hy => ?_))⟩
  constructor
  · exact Or.inl
  · rintro (a | a)
    · exact a
    · exact absurd a.1 (Nat.not_lt_zero _)
end
section
/-! Y's arrange -/
variable {fw fp fl fk fc fg yN yO : Int32} {aV aO aP aD aN aT aR aH aW aG aL aK aU aE tA tM tB tO tS yA yM yC yR : Nat → Int32}
theorem yp_arI {post : SY → Prop} {J : Int32 → Int32 → Int32 → (Nat → Int32) → (Nat → Int32) → (Nat → Int32) → (Nat → Int32) → (Nat → Int32) → (Nat → Int32) → (Nat → Int32) → (Nat → Int32) → (Nat → Int32) → (Nat → Int32) → (Nat → Int32) → (Nat → Int32) → (Nat → Int32) → (Nat → Int32) → (Nat → Int32) → (Nat → Int32) → (Nat → Int32) → Prop} {x1 x2 x4 : Int32} {S : Nat → Prop} {L : List Nat} (hm : pd_MS x4 S) (hlen : (L ++ gr_fl S 5).length ≤ 5)
    (hJ : ∀ a, pd_AL a (L ++ gr_fl S 5) → J (x1 ||| x4) (x2 + 1) (nI (L ++ gr_fl S 5).length) aO aP aD aN aT aR aH aW aG yA yM yC aL aK aU aE a) : ∀ g q, q + g = 5 → ∀ a, pd_AL a (L ++ gr_fl S q) → wY_arrange_104 post J x1 x2 x4 fw fp fl fk yN fg (g + 1) (nI q) (nI (L ++ gr_fl S q).length) aO aP aD aN aT aR aH aW aG yA yM yC aL aK aU aE a := by
  intro g
  induction g with
  | zero =>
    intro q hq a ha
    have e : q = 5 := by omega
    subst e
    exact br_t (by decide) (nm_e (nm_e (hJ a ha)))
  | succ g ih =>
    intro q hq a ha
    have hq5 : q < 5 := by omega
    refine br_f (lt5' q hq5) ?_
    rw [pd_MSb1 hm hq5]
    refine br_c (fun z' => ?_) (fun z => nm_r (nI_1 q) ?_)
    · have hl := gr_fll (S := S) (5 - (q + 1)) (q + 1)
      rw [show q + 1 + (5 - (q + 1)) = 5 by omega, gr_flP z', List.length_append] at hl
      rw [List.length_append] at hlen
      have e1 : [q].length = 1 := rfl
      have hb5 : (L ++ gr_fl S q).length < 5 := by rw [List.length_append]; omega
      rw [nI_clamp (n := (L ++ gr_fl S q).length) (by omega)]
      refine ⟨vp_in_nI hb5 (by omega), nm_e (nm_r (nI_1 _) (nm_r (nI_1 q) ?_))⟩
      have e2 : L ++ gr_fl S (q + 1) = (L ++ gr_fl S q) ++ [q] := by rw [gr_flP z', List.append_assoc]
      have i2 := ih (q + 1) (by omega) (upd a (L ++ gr_fl S q).length (nI q)) (by rw [e2]; exact pd_ALa ha q)
      rw [e2, List.length_append (bs := [q])] at i2
      exact i2
    · have i2 := ih (q + 1) (by omega) a (by rw [gr_flN z]; exact ha)
      rw [gr_flN z] at i2
      exact i2
/-- the least x not below s that may come next, or -1 -/
def pd_NX (C : Nat → Prop) (s : Nat) (x : Int32) : Prop := (∃ q, s ≤ q ∧ q < 5 ∧ C q ∧ (∀ t, s ≤ t → t < q → ¬ C t) ∧ x = nI q) ∨ ((∀ t, s ≤ t → t < 5 → ¬ C t) ∧ x = -1)
theorem yp_arN {post : SY → Prop} {J : Int32 → Int32 → Int32 → (Nat → Int32) → (Nat → Int32) → (Nat → Int32) → (Nat → Int32) → (Nat → Int32) → (Nat → Int32) → (Nat → Int32) → (Nat → Int32) → (Nat → Int32) → (Nat → Int32) → (Nat → Int32) → (Nat → Int32) → (Nat → Int32) → (Nat → Int32) → (Nat → Int32) → (Nat → Int32) → (Nat → Int32) → Prop} {x1 x2 : Int32} {P : Nat → Prop} (hI : pd_I aD aT aW) (h9 : pd_9 aL) (hp : pd_MS x1 P)
    (h : ∀ m, pd_MS m (fun y => gr_nx (gr_C (pd_R aO aD aN aT aL) (pd_U aL) P) < 5 ∧ gr_G (pd_R aO aD aN aT aL) (gr_nx (gr_C (pd_R aO aD aN aT aL) (pd_U aL) P)) y) → ∃ n, wY_arrange_104 post J x1 x2 m fw fp fl fk yN fg n 0 yO aO aP aD aN aT aR aH aW aG yA yM yC aL aK aU aE yR) :
    ∀ s, s ≤ 5 → ∀ x3 x4, pd_NX (gr_C (pd_R aO aD aN aT aL) (pd_U aL) P) s x3 → (s = 0 → x4 = -1) → (∀ t, s = t + 1 → x4 = nI t) → wY_arrange_19 post J x1 x2 fw fp fl fk yN fg yO aO aP aD aN aT aR aH aW aG yA yM yC aL aK aU aE yR (s + 1) x3 x4 := by
  intro s
  induction s with
  | zero =>
    intro _ x3 x4 hx e _
    rw [e rfl]
    refine br_t (by decide) ?_
    rcases hx with ⟨q, _, hq, hC, hN, ex⟩ | ⟨hN, ex⟩
    · rw [ex]
      have eq := gr_nxu (C := gr_C (pd_R aO aD aN aT aL) (pd_U aL) P) (by omega) (fun t ht => hN t (Nat.zero_le _) ht) (fun _ => hC)
      rw [eq] at h
      exact br_t (nI_pos' (by omega)) (yp_gp hq hI h9 (fun m hm => h m (pd_MSc hm (fun y _ => ⟨fun w => ⟨hq, w⟩, fun w => w.2⟩))))
    · rw [ex]
      have eq := gr_nxu (C := gr_C (pd_R aO aD aN aT aL) (pd_U aL) P) (Nat.le_refl 5) (fun t ht => hN t (Nat.zero_le _) ht) (fun w => absurd w (Nat.lt_irrefl _))
      rw [eq] at h
      exact br_f (by decide) (h 0 (pd_MS0 (fun y _ w => absurd w.1 (Nat.lt_irrefl _))))
  | succ s ih =>
    intro hs x3 x4 hx _ e
    have hs5 : s < 5 := by omega
    rw [e s rfl]
    obtain ⟨v, hv, ev⟩ := h9 s hs5
    have nxt : ∀ x3', pd_NX (gr_C (pd_R aO aD aN aT aL) (pd_U aL) P) s x3' → wY_arrange_19 post J x1 x2 fw fp fl fk yN fg yO aO aP aD aN aT aR aH aW aG yA yM yC aL aK aU aE yR (s + 1) x3' (nI s + (-1)) := by
      intro x3' hx'
      refine ih (by omega) x3' _ hx' (fun z => ?_) (fun t z => ?_)
      · subst z; decide
      · subst z; exact pk_m1 t
    have no : ¬ gr_C (pd_R aO aD aN aT aL) (pd_U aL) P s → pd_NX (gr_C (pd_R aO aD aN aT aL) (pd_U aL) P) s x3 := by
      intro z
      rcases hx with ⟨q, a, b, c, d, f⟩ | ⟨a, b⟩
      · refine Or.inl ⟨q, by omega, b, c, fun t h1 h2 => ?_, f⟩
        by_cases w : t = s
        · subst w; exact z
        · exact d t (by omega) h2
      · refine Or.inr ⟨fun t h1 h2 => ?_, b⟩
        by_cases w : t = s
        · subst w; exact z
        · exact a t (by omega) h2
    have yes : gr_C (pd_R aO aD aN aT aL) (pd_U aL) P s → pd_NX (gr_C (pd_R aO aD aN aT aL) (pd_U aL) P) s (nI s) := fun z => Or.inl ⟨s, Nat.le_refl _, hs5, z, fun t h1 h2 => absurd h1 (by omega), rfl⟩
    have skip : ¬ gr_C (pd_R aO aD aN aT aL) (pd_U aL) P s → wY_arrange_47 post J (wY_arrange_19 post J x1 x2 fw fp fl fk yN fg yO aO aP aD aN aT aR aH aW aG yA yM yC aL aK aU aE yR (s + 1)) x1 x2 x3 (nI s) fw fp fl fk yN fg yO aO aP aD aN aT aR aH aW aG yA yM yC aL aK aU aE yR := by
      intro z
      exact br_t rfl (nm_e (nxt x3 (no z)))
    refine br_f (nI_pos (by omega)) ⟨vp_in_nI hs5 (by omega), ?_⟩
    rw [nI_clamp (n := s) (by omega), pd_MSb0 hp hs5, ev]
    refine pk_le v 0 (fun z => skip (fun c => c.1 (by rw [ev, show v = 0 by omega]; rfl))) (fun z => br_c (fun z2 => ?_) (fun z2 => skip (fun c => z2 c.2.1))) rfl rfl (by omega) (by omega)
    have hU : pd_U aL s := by unfold pd_U; rw [ev]; exact nI_ne0 (by omega) (by omega)
    refine br_f (by decide) (yp_be hs5 hI h9 (fun m1 hm1 => yp_gp hs5 hI h9 (fun m2 hm2 => ?_)))
    rw [pd_MSz (pd_MSd (pd_MSd hm1 hm2) hp)]
    refine br_c (fun y => nm_e (nxt _ (yes ⟨hU, z2, fun k hk hk2 => ?_⟩))) (fun y => nm_e (nxt _ (no (fun c => y (fun k hk hk2 => ?_)))))
    · apply Classical.byContradiction
      intro w
      exact y k hk ⟨⟨hk2, fun g => w (Or.inl g)⟩, fun g => w (Or.inr g)⟩
    · rcases c.2.2 k hk hk2.1.1 with w | w
      · exact hk2.1.2 w
      · exact hk2.2 w
theorem yp_ar {post : SY → Prop} (hI : pd_I aD aT aW) (h9 : pd_9 aL) (h : ∀ a, pd_AL a (gr_st (pd_R aO aD aN aT aL) (pd_U aL) 5).2 → post (fw, fp, fl, fk, yN, fg, nI (gr_st (pd_R aO aD aN aT aL) (pd_U aL) 5).2.length, aO, aP, aD, aN, aT, aR, aH, aW, aG, yA, yM, yC, aL, aK, aU, aE, a)) : wpY_arrange post (fw, fp, fl, fk, yN, fg, yO, aO, aP, aD, aN, aT, aR, aH, aW, aG, yA, yM, yC, aL, aK, aU, aE, yR) := by
  have hV := pd_RU (aO := aO) (aD := aD) (aN := aN) (aT := aT) (aL := aL)
  have key : ∀ g r, r + g = 5 → ∀ x1 a, pd_MS x1 (gr_st (pd_R aO aD aN aT aL) (pd_U aL) r).1 → pd_AL a (gr_st (pd_R aO aD aN aT aL) (pd_U aL) r).2 → wY_arrange_9 post fw fp fl fk yN fg (g + 1) x1 (nI r) (nI (gr_st (pd_R aO aD aN aT aL) (pd_U aL) r).2.length) aO aP aD aN aT aR aH aW aG yA yM yC aL aK aU aE a := by
    intro g
    induction g with
    | zero =>
      intro r hr x1 a hm ha
      have e : r = 5 := by omega
      subst e
      exact br_t (by decide) (h a ha)
    | succ g ih =>
      intro r hr x1 a hm ha
      have hlen := gr_len hV (r + 1)
      refine br_f (lt5' r (by omega)) ⟨6, ?_⟩
      refine yp_arN hI h9 hm (fun m hmm => ⟨6, ?_⟩) 5 (Nat.le_refl _) (-1) 4 (Or.inr ⟨fun t h1 h2 => absurd h1 (by omega), rfl⟩) (fun z => by omega) (fun t z => by rw [show t = 4 by omega]; rfl)
      have hJ : ∀ a', pd_AL a' (gr_st (pd_R aO aD aN aT aL) (pd_U aL) (r + 1)).2 → wY_arrange_9 post fw fp fl fk yN fg (g + 1) (x1 ||| m) (nI r + 1) (nI (gr_st (pd_R aO aD aN aT aL) (pd_U aL) (r + 1)).2.length) aO aP aD aN aT aR aH aW aG yA yM yC aL aK aU aE a' := by
        intro a' ha'
        rw [nI_1]
        refine ih (r + 1) (by omega) _ a' ?_ ha'
        refine pd_MSc (pd_MSo hm hmm) (fun y hy => ?_)
        constructor
        · rintro (z | z)
          · exact Or.inl z
          · exact Or.inr ⟨hy, z⟩
        · rintro (z | z)
          · exact Or.inl z
          · exact Or.inr z.2
      have k0 := yp_arI (fw := fw) (fp := fp) (fl := fl) (fk := fk) (yN := yN) (fg := fg) (post := post) (J := wY_arrange_9 post fw fp fl fk yN fg (g + 1)) (x1 := x1) (x2 := nI r) (L := (gr_st (pd_R aO aD aN aT aL) (pd_U aL) r).2) hmm hlen hJ 5 0 rfl a (by rw [show gr_fl _ 0 = [] from rfl, List.append_nil]; exact ha)
      rw [show gr_fl _ 0 = [] from rfl, List.append_nil] at k0
      exact k0
  exact ⟨6, key 5 0 rfl 0 yR (pd_MS0 (fun y _ z => z)) (fun i hi => absurd hi (Nat.not_lt_zero _))⟩
end
section
/-! generations by number; the list of steps -/
variable {fw fp fl fk fc fg yN yO : Int32} {aV aO aP aD aN aT aR aH aW aG aL aK aU aE tA tM tB tO tS yA yM yC yR : Nat → Int32}
def pd_GI (kn c g : Nat) (aU aE : Nat → Int32) : Prop := 1 ≤ kn ∧ kn ≤ 6 ∧ c < kn ∧ (∃ m : Nat → Nat, (∀ i, i < kn → aU i = nI (m i) ∧ m i ≤ g) ∧ (∀ i j, i < j → j < kn → m i < m j)) ∧ (∀ j, j < 30 → ∃ x, x ≤ 9 ∧ aE j = nI x)
theorem pd_GIu {kn c g i j : Nat} (hG : pd_GI kn c g aU aE) (hg : g < 2 ^ 31) (hi : i < kn) (hj : j < kn) (e : aU i = aU j) : i = j := by
  obtain ⟨_, _, _, ⟨m, h1, h2⟩, _⟩ := hG
  have a := h1 i hi
  have b := h1 j hj
  rw [a.1, b.1, nI_eq (by omega) (by omega)] at e
  rcases Nat.lt_trichotomy i j with h | h | h
  · have := h2 i j h hj; omega
  · exact h
  · have := h2 j i h hi; omega
theorem xp_slot {post : Int32 → Prop} {kn : Nat} {x : Int32} (hk : fk = nI kn) (hk6 : kn ≤ 6) (h1 : ∀ i, i < kn → aU i = x → (∀ j, j < i → ¬ aU j = x) → post (nI i)) (h0 : (∀ i, i < kn → ¬ aU i = x) → post (-1)) : wpX_slotOf post (fw, fp, fl, fk, fc, fg, aV, aO, aP, aD, aN, aT, aR, aH, aW, aG, aL, aK, aU, aE, tA, tM, tB, tO, tS) x := by
  have key : ∀ g i, i + g = kn → (∀ j, j < i → ¬ aU j = x) → wX_slotOf_2 post x fw fp fl fk fc fg aV aO aP aD aN aT aR aH aW aG aL aK aU aE tA tM tB tO tS (g + 1) (nI i) := by
    intro g
    induction g with
    | zero =>
      intro i hi hj
      have e : i = kn := by omega
      subst e
      exact br_t (by rw [hk]; exact nI_le (Nat.le_refl _) (by omega)) (h0 hj)
    | succ g ih =>
      intro i hi hj
      refine br_f (by rw [hk]; exact nI_ge (by omega) (by omega)) ⟨vp_in_nI (by omega) (by omega), ?_⟩
      rw [nI_clamp (n := i) (by omega)]
      refine br_c (fun z => h1 i (by omega) z hj) (fun z => nm_r (nI_1 i) (ih (i + 1) (by omega) ?_))
      intro j hj'
      by_cases q : j = i
      · subst q; exact z
      · exact hj j (by omega)
  exact ⟨kn + 1, key kn 0 (by omega) (fun j hj => absurd hj (Nat.not_lt_zero _))⟩
theorem yp_place {post : Int32 → Prop} {kn : Nat} {x : Int32} (hk : fk = nI kn) (hk6 : kn ≤ 6) (h1 : ∀ i, i < kn → aU i = x → (∀ j, j < i → ¬ aU j = x) → post (nI i)) (h0 : (∀ i, i < kn → ¬ aU i = x) → post (-1)) : wpY_place post (fw, fp, fl, fk, yN, fg, yO, aO, aP, aD, aN, aT, aR, aH, aW, aG, yA, yM, yC, aL, aK, aU, aE, yR) x := by
  have key : ∀ g i, i + g = kn → (∀ j, j < i → ¬ aU j = x) → wY_place_2 post x fw fp fl fk yN fg yO aO aP aD aN aT aR aH aW aG yA yM yC aL aK aU aE yR (g + 1) (nI i) := by
    intro g
    induction g with
    | zero =>
      intro i hi hj
      have e : i = kn := by omega
      subst e
      exact br_t (by rw [hk]; exact nI_le (Nat.le_refl _) (by omega)) (h0 hj)
    | succ g ih =>
      intro i hi hj
      refine br_f (by rw [hk]; exact nI_ge (by omega) (by omega)) ⟨vp_in_nI (by omega) (by omega), ?_⟩
      rw [nI_clamp (n := i) (by omega)]
      refine br_c (fun z => h1 i (by omega) z hj) (fun z => nm_r (nI_1 i) (ih (i + 1) (by omega) ?_))
      intro j hj'
      by_cases q : j = i
      · subst q; exact z
      · exact hj j (by omega)
  exact ⟨kn + 1, key kn 0 (by omega) (fun j hj => absurd hj (Nat.not_lt_zero _))⟩
theorem xp_cv {post : Int32 → Prop} {c p : Nat} (hc : fc = nI c) (hc6 : c < 6) (hp : p < 5) (h : post (aE (5 * c + p))) : wpX_currentVersion post (fw, fp, fl, fk, fc, fg, aV, aO, aP, aD, aN, aT, aR, aH, aW, aG, aL, aK, aU, aE, tA, tM, tB, tO, tS) (nI p) := by
  unfold wpX_currentVersion
  dsimp only
  rw [hc, pd_l5, nI_clamp (n := 5 * c + p) (by omega)]
  exact ⟨vp_in_nI (by omega) (by omega), h⟩
theorem yp_gv {post : Int32 → Prop} {kn c g p : Nat} (hk : fk = nI kn) (hG : pd_GI kn c g aU aE) (hg : g < 2 ^ 31) (hn : yN = aU c) (hp : p < 5) (h : post (aE (5 * c + p))) : wpY_given post (fw, fp, fl, fk, yN, fg, yO, aO, aP, aD, aN, aT, aR, aH, aW, aG, yA, yM, yC, aL, aK, aU, aE, yR) (nI p) := by
  unfold wpY_given
  have h6 := hG.2.1
  have hc := hG.2.2.1
  refine yp_place hk h6 (fun i hi e _ => ?_) (fun z => absurd hn.symm (z c hc))
  have : i = c := pd_GIu hG hg hi hc (e.trans hn)
  subst this
  rw [pd_l5, nI_clamp (n := 5 * i + p) (by omega)]
  exact ⟨vp_in_nI (by omega) (by omega), h⟩
def pd_rm (cu aL : Nat → Int32) : Nat → List Int32
  | 0 => []
  | k + 1 => pd_rm cu aL k ++ (if cu (4 - k) = 0 ∨ cu (4 - k) = aL (4 - k) then [] else [(100 + (10 * nI (4 - k))) + cu (4 - k)])
def pd_pl (cu aL : Nat → Int32) (L : List Nat) : Nat → List Int32
  | 0 => []
  | i + 1 => pd_pl cu aL L i ++ (if aL (L.getD i 0) = cu (L.getD i 0) then [] else [(200 + (10 * nI (L.getD i 0))) + aL (L.getD i 0)])
def pd_SL (cu aL : Nat → Int32) (L : List Nat) : List Int32 := pd_rm cu aL 5 ++ pd_pl cu aL L L.length
def pd_AS (a : Nat → Int32) (l : List Int32) : Prop := ∀ i, i < l.length → a i = l.getD i (-4)
theorem pd_gapp {A B : List Int32} {d : Nat} (h : d < A.length) : (A ++ B).getD d (-4) = A.getD d (-4) := by
  rw [List.getD_eq_getElem?_getD, List.getD_eq_getElem?_getD, List.getElem?_append_left h]
theorem pd_gmid {A B : List Int32} {x : Int32} : (A ++ x :: B).getD A.length (-4) = x := by
  rw [List.getD_eq_getElem?_getD, List.getElem?_append_right (Nat.le_refl _), Nat.sub_self]
  rfl
theorem pd_gout {A : List Int32} {d : Nat} (h : A.length ≤ d) : A.getD d (-4) = -4 := by
  rw [List.getD_eq_getElem?_getD, List.getElem?_eq_none h]
  rfl
theorem pd_ASa {a : Nat → Int32} {l : List Int32} (h : pd_AS a l) (x : Int32) : pd_AS (upd a l.length x) (l ++ [x]) := by
  intro i hi
  rw [List.length_append] at hi
  have e1 : [x].length = 1 := rfl
  by_cases z : i = l.length
  · subst z; rw [pk_us, pd_gmid]
  · rw [pk_un z, pd_gapp (by omega)]
    exact h i (by omega)
theorem pd_rml (cu aL : Nat → Int32) : ∀ k, (pd_rm cu aL k).length ≤ k := by
  intro k
  induction k with
  | zero => exact Nat.le_refl _
  | succ k ih =>
    rw [pd_rm, List.length_append]
    split
    · have : ([] : List Int32).length = 0 := rfl
      omega
    · have : ∀ x : Int32, [x].length = 1 := fun _ => rfl
      rw [this]; omega
theorem pd_pll (cu aL : Nat → Int32) (L : List Nat) : ∀ k, (pd_pl cu aL L k).length ≤ k := by
  intro k
  induction k with
  | zero => exact Nat.le_refl _
  | succ k ih =>
    rw [pd_pl, List.length_append]
    split
    · have : ([] : List Int32).length = 0 := rfl
      omega
    · have : ∀ x : Int32, [x].length = 1 := fun _ => rfl
      rw [this]; omega
theorem pd_rmp (cu aL : Nat → Int32) (k : Nat) : ∀ j, ∃ t, pd_rm cu aL (k + j) = pd_rm cu aL k ++ t := by
  intro j
  induction j with
  | zero => exact ⟨[], (List.append_nil _).symm⟩
  | succ j ih =>
    obtain ⟨t, e⟩ := ih
    rw [← Nat.add_assoc, pd_rm, e]
    exact ⟨_, List.append_assoc _ _ _⟩
theorem pd_plp (cu aL : Nat → Int32) (L : List Nat) (k : Nat) : ∀ j, ∃ t, pd_pl cu aL L (k + j) = pd_pl cu aL L k ++ t := by
  intro j
  induction j with
  | zero => exact ⟨[], (List.append_nil _).symm⟩
  | succ j ih =>
    obtain ⟨t, e⟩ := ih
    rw [← Nat.add_assoc, pd_pl, e]
    exact ⟨_, List.append_assoc _ _ _⟩
theorem pd_get5 {L : List Nat} (h : ∀ x, x ∈ L → x < 5) {i : Nat} (hi : i < L.length) : L.getD i 0 < 5 := by
  rw [List.getD_eq_getElem?_getD, List.getElem?_eq_getElem hi]
  exact h _ (List.getElem_mem hi)
def pd_cu (aE : Nat → Int32) (c : Nat) : Nat → Int32 := fun p => aE (5 * c + p)
theorem xp_ls {post : Int32 → SX → Prop} {c : Nat} (hc : fc = nI c) (hc6 : c < 6) (hI : pd_I aD aT aW) (hI2 : pd_I2 aD aT) (h9 : pd_9 aL)
    (h : ∀ b o s, pd_AS s (pd_SL (pd_cu aE c) aL (gr_st (pd_R aO aD aN aT aL) (pd_U aL) 5).2) → post (nI (pd_SL (pd_cu aE c) aL (gr_st (pd_R aO aD aN aT aL) (pd_U aL) 5).2).length) (fw, fp, fl, fk, fc, fg, aV, aO, aP, aD, aN, aT, aR, aH, aW, aG, aL, aK, aU, aE, tA, tM, b, o, s)) : wpX_listSteps post (fw, fp, fl, fk, fc, fg, aV, aO, aP, aD, aN, aT, aR, aH, aW, aG, aL, aK, aU, aE, tA, tM, tB, tO, tS) := by
  have hV := pd_RU (aO := aO) (aD := aD) (aN := aN) (aT := aT) (aL := aL)
  have hL5 := (gr_inv hV 5).1
  have hlen := gr_len hV 5
  have hrm := pd_rml (pd_cu aE c) aL 5
  have second : ∀ (b o : Nat → Int32), pd_AL o (gr_st (pd_R aO aD aN aT aL) (pd_U aL) 5).2 → ∀ g i, i + g = (gr_st (pd_R aO aD aN aT aL) (pd_U aL) 5).2.length → ∀ s, pd_AS s (pd_rm (pd_cu aE c) aL 5 ++ pd_pl (pd_cu aE c) aL (gr_st (pd_R aO aD aN aT aL) (pd_U aL) 5).2 i) → wX_listSteps_59 post (nI (gr_st (pd_R aO aD aN aT aL) (pd_U aL) 5).2.length) fw fp fl fk fc fg (g + 1) (nI (pd_rm (pd_cu aE c) aL 5 ++ pd_pl (pd_cu aE c) aL (gr_st (pd_R aO aD aN aT aL) (pd_U aL) 5).2 i).length) (nI i) aV aO aP aD aN aT aR aH aW aG aL aK aU aE tA tM b o s := by
    intro b o ho g
    induction g with
    | zero =>
      intro i hi s hs
      have e : i = (gr_st (pd_R aO aD aN aT aL) (pd_U aL) 5).2.length := by omega
      subst e
      exact br_t (nI_le (Nat.le_refl _) (by omega)) (h b o s hs)
    | succ g ih =>
      intro i hi s hs
      have hi5 : i < 5 := by omega
      have hq5 := pd_get5 hL5 (show i < (gr_st (pd_R aO aD aN aT aL) (pd_U aL) 5).2.length by omega)
      have hpl := pd_pll (pd_cu aE c) aL (gr_st (pd_R aO aD aN aT aL) (pd_U aL) 5).2 i
      have hln : (pd_rm (pd_cu aE c) aL 5 ++ pd_pl (pd_cu aE c) aL (gr_st (pd_R aO aD aN aT aL) (pd_U aL) 5).2 i).length < 10 := by rw [List.length_append]; omega
      have i2 := ih (i + 1) (by omega)
      rw [pd_pl] at i2
      refine br_f (nI_ge (by omega) (by omega)) ⟨vp_in_nI hi5 (by omega), nm_r (e' := nI ((gr_st (pd_R aO aD aN aT aL) (pd_U aL) 5).2.getD i 0)) (by rw [nI_clamp (by omega)]; exact ho i (by omega)) ?_⟩
      generalize hq : (gr_st (pd_R aO aD aN aT aL) (pd_U aL) 5).2.getD i 0 = q at *
      rw [nI_clamp (n := q) (by omega)]
      refine ⟨vp_in_nI hq5 (by omega), xp_cv hc hc6 hq5 (br_c (fun z => nm_r (nI_1 i) ?_) (fun z => ⟨vp_in_nI hq5 (by omega), ?_⟩))⟩
      · have z' : aL q = pd_cu aE c q := z
        rw [if_pos z', List.append_nil] at i2
        exact i2 s hs
      · have z' : ¬ aL q = pd_cu aE c q := z
        rw [if_neg z', ← List.append_assoc] at i2
        rw [nI_clamp (n := (pd_rm (pd_cu aE c) aL 5 ++ pd_pl (pd_cu aE c) aL (gr_st (pd_R aO aD aN aT aL) (pd_U aL) 5).2 i).length) (by omega)]
        refine ⟨vp_in_nI hln (by omega), nm_e (nm_r (nI_1 _) (nm_r (nI_1 i) ?_))⟩
        have i3 := i2 _ (pd_ASa hs ((200 + (10 * nI q)) + aL q))
        rw [List.length_append (bs := [(200 + (10 * nI q)) + aL q])] at i3
        exact i3
  have fin : ∀ s, pd_AS s (pd_rm (pd_cu aE c) aL 5) → wpX_orderPlan (fun r_2 u => match u with | (fw_3, fp_3, fl_3, fk_3, fc_3, fg_3, aV_3, aO_3, aP_3, aD_3, aN_3, aT_3, aR_3, aH_3, aW_3, aG_3, aL_3, aK_3, aU_3, aE_3, tA_3, tM_3, tB_3, tO_3, tS_3) => (∃ n59 : Nat, wX_listSteps_59 post r_2 fw_3 fp_3 fl_3 fk_3 fc_3 fg_3 n59 (nI (pd_rm (pd_cu aE c) aL 5).length) 0 aV_3 aO_3 aP_3 aD_3 aN_3 aT_3 aR_3 aH_3 aW_3 aG_3 aL_3 aK_3 aU_3 aE_3 tA_3 tM_3 tB_3 tO_3 tS_3)) (fw, fp, fl, fk, fc, fg, aV, aO, aP, aD, aN, aT, aR, aH, aW, aG, aL, aK, aU, aE, tA, tM, tB, tO, s) := by
    intro s hs
    refine xp_op hI hI2 h9 (fun b o ho => ?_)
    have k0 := second b o ho (gr_st (pd_R aO aD aN aT aL) (pd_U aL) 5).2.length 0 (by omega) s (by rw [show pd_pl (pd_cu aE c) aL (gr_st (pd_R aO aD aN aT aL) (pd_U aL) 5).2 0 = [] from rfl, List.append_nil]; exact hs)
    rw [show pd_pl (pd_cu aE c) aL (gr_st (pd_R aO aD aN aT aL) (pd_U aL) 5).2 0 = [] from rfl, List.append_nil] at k0
    exact ⟨_, k0⟩
  have first : ∀ p, p < 5 → ∀ s, pd_AS s (pd_rm (pd_cu aE c) aL (4 - p)) → wX_listSteps_4 post fw fp fl fk fc fg (p + 2) (nI (pd_rm (pd_cu aE c) aL (4 - p)).length) (nI p) aV aO aP aD aN aT aR aH aW aG aL aK aU aE tA tM tB tO s := by
    intro p
    induction p with
    | zero =>
      intro hp s hs
      have hl4 := pd_rml (pd_cu aE c) aL (4 - 0)
      have e5 : pd_rm (pd_cu aE c) aL 5 = pd_rm (pd_cu aE c) aL 4 ++ (if pd_cu aE c 0 = 0 ∨ pd_cu aE c 0 = aL 0 then [] else [(100 + (10 * nI 0)) + pd_cu aE c 0]) := rfl
      have nx : ∀ s', pd_AS s' (pd_rm (pd_cu aE c) aL 5) → wX_listSteps_4 post fw fp fl fk fc fg (0 + 1) (nI (pd_rm (pd_cu aE c) aL 5).length) (-1) aV aO aP aD aN aT aR aH aW aG aL aK aU aE tA tM tB tO s' := fun s' hs' => br_t (by decide) (fin s' hs')
      refine br_f (nI_pos (by omega)) (xp_cv hc hc6 hp (br_c (fun z => nm_r (e' := -1) (by decide) ?_) (fun z => ⟨vp_in_nI hp (by omega), ?_⟩)))
      · have z' : pd_cu aE c 0 = 0 := z
        rw [e5, if_pos (Or.inl z'), List.append_nil] at nx
        exact nx s hs
      · rw [nI_clamp (n := 0) (by omega)]
        refine br_c (fun z2 => nm_r (e' := -1) (by decide) ?_) (fun z2 => ?_)
        · have z' : pd_cu aE c 0 = aL 0 := z2
          rw [e5, if_pos (Or.inr z'), List.append_nil] at nx
          exact nx s hs
        · have z' : ¬ (pd_cu aE c 0 = 0 ∨ pd_cu aE c 0 = aL 0) := fun q => q.elim z z2
          rw [e5, if_neg z'] at nx
          rw [nI_clamp (n := (pd_rm (pd_cu aE c) aL (4 - 0)).length) (by omega)]
          refine ⟨vp_in_nI (show (pd_rm (pd_cu aE c) aL (4 - 0)).length < 10 by omega) (by omega), nm_e (nm_r (nI_1 _) (nm_r (e' := -1) (by decide) ?_))⟩
          have i3 := nx _ (pd_ASa hs ((100 + (10 * nI 0)) + pd_cu aE c 0))
          rw [List.length_append (bs := [(100 + (10 * nI 0)) + pd_cu aE c 0])] at i3
          exact i3
    | succ p ih =>
      intro hp s hs
      have hl4 := pd_rml (pd_cu aE c) aL (4 - (p + 1))
      have e4 : 4 - p = (4 - (p + 1)) + 1 := by omega
      have e6 : 4 - (4 - (p + 1)) = p + 1 := by omega
      have e5 : pd_rm (pd_cu aE c) aL (4 - p) = pd_rm (pd_cu aE c) aL (4 - (p + 1)) ++ (if pd_cu aE c (p + 1) = 0 ∨ pd_cu aE c (p + 1) = aL (p + 1) then [] else [(100 + (10 * nI (p + 1))) + pd_cu aE c (p + 1)]) := by
        rw [e4, pd_rm, e6]
      have nx := ih (by omega)
      refine br_f (nI_pos (by omega)) (xp_cv hc hc6 hp (br_c (fun z => nm_r (pk_m1 p) ?_) (fun z => ⟨vp_in_nI hp (by omega), ?_⟩)))
      · have z' : pd_cu aE c (p + 1) = 0 := z
        rw [e5, if_pos (Or.inl z'), List.append_nil] at nx
        exact nx s hs
      · rw [nI_clamp (n := p + 1) (by omega)]
        refine br_c (fun z2 => nm_r (pk_m1 p) ?_) (fun z2 => ?_)
        · have z' : pd_cu aE c (p + 1) = aL (p + 1) := z2
          rw [e5, if_pos (Or.inr z'), List.append_nil] at nx
          exact nx s hs
        · have z' : ¬ (pd_cu aE c (p + 1) = 0 ∨ pd_cu aE c (p + 1) = aL (p + 1)) := fun q => q.elim z z2
          rw [e5, if_neg z'] at nx
          rw [nI_clamp (n := (pd_rm (pd_cu aE c) aL (4 - (p + 1))).length) (by omega)]
          refine ⟨vp_in_nI (show (pd_rm (pd_cu aE c) aL (4 - (p + 1))).length < 10 by omega) (by omega), nm_e (nm_r (nI_1 _) (nm_r (pk_m1 p) ?_))⟩
          have i3 := nx _ (pd_ASa hs ((100 + (10 * nI (p + 1))) + pd_cu aE c (p + 1)))
          rw [List.length_append (bs := [(100 + (10 * nI (p + 1))) + pd_cu aE c (p + 1)])] at i3
          exact i3
  exact ⟨6, first 4 (by omega) tS (fun i hi => absurd hi (Nat.not_lt_zero _))⟩
end
section
/-! Y's stepAt and steps; how many steps there are -/
variable {fw fp fl fk fc fg yN yO : Int32} {aV aO aP aD aN aT aR aH aW aG aL aK aU aE tA tM tB tO tS yA yM yC yR : Nat → Int32}
theorem yp_sa {post : Int32 → SY → Prop} {kn c g j : Nat} (hj : j < 2 ^ 31) (hk : fk = nI kn) (hG : pd_GI kn c g aU aE) (hg : g < 2 ^ 31) (hn : yN = aU c) (hI : pd_I aD aT aW) (h9 : pd_9 aL)
    (h : ∀ o a, post ((pd_SL (pd_cu aE c) aL (gr_st (pd_R aO aD aN aT aL) (pd_U aL) 5).2).getD j (-4)) (fw, fp, fl, fk, yN, fg, o, aO, aP, aD, aN, aT, aR, aH, aW, aG, yA, yM, yC, aL, aK, aU, aE, a)) : wpY_stepAt post (fw, fp, fl, fk, yN, fg, yO, aO, aP, aD, aN, aT, aR, aH, aW, aG, yA, yM, yC, aL, aK, aU, aE, yR) (nI j) := by
  have hV := pd_RU (aO := aO) (aD := aD) (aN := aN) (aT := aT) (aL := aL)
  have hL5 := (gr_inv hV 5).1
  have hlen := gr_len hV 5
  have h6 := hG.2.1
  have hc := hG.2.2.1
  have second : ∀ (o : Int32) (a : Nat → Int32), o = nI (gr_st (pd_R aO aD aN aT aL) (pd_U aL) 5).2.length → pd_AL a (gr_st (pd_R aO aD aN aT aL) (pd_U aL) 5).2 → ∀ g i, i + g = (gr_st (pd_R aO aD aN aT aL) (pd_U aL) 5).2.length → (pd_rm (pd_cu aE c) aL 5 ++ pd_pl (pd_cu aE c) aL (gr_st (pd_R aO aD aN aT aL) (pd_U aL) 5).2 i).length ≤ j → wY_stepAt_64 post (nI j) fw fp fl fk yN fg o aO aP aD aN aT aR aH aW aG yA yM yC aL aK aU aE a (g + 1) (nI (pd_rm (pd_cu aE c) aL 5 ++ pd_pl (pd_cu aE c) aL (gr_st (pd_R aO aD aN aT aL) (pd_U aL) 5).2 i).length) (nI i) := by
    intro o a eo ho g'
    induction g' with
    | zero =>
      intro i hi hle
      have e : i = (gr_st (pd_R aO aD aN aT aL) (pd_U aL) 5).2.length := by omega
      subst e
      have h' := h o a
      rw [pd_gout (A := pd_SL (pd_cu aE c) aL (gr_st (pd_R aO aD aN aT aL) (pd_U aL) 5).2) hle] at h'
      exact br_t (by rw [eo]; exact nI_le (Nat.le_refl _) (by omega)) h'
    | succ g' ih =>
      intro i hi hle
      have hi5 : i < 5 := by omega
      have hq5 := pd_get5 hL5 (show i < (gr_st (pd_R aO aD aN aT aL) (pd_U aL) 5).2.length by omega)
      have i2 := ih (i + 1) (by omega)
      obtain ⟨t, et⟩ := pd_plp (pd_cu aE c) aL (gr_st (pd_R aO aD aN aT aL) (pd_U aL) 5).2 (i + 1) g'
      rw [show i + 1 + g' = (gr_st (pd_R aO aD aN aT aL) (pd_U aL) 5).2.length by omega] at et
      rw [pd_pl] at i2 et
      refine br_f (by rw [eo]; exact nI_ge (by omega) (by omega)) ⟨vp_in_nI hi5 (by omega), nm_r (e' := nI ((gr_st (pd_R aO aD aN aT aL) (pd_U aL) 5).2.getD i 0)) (by rw [nI_clamp (by omega)]; exact ho i (by omega)) ?_⟩
      generalize hq : (gr_st (pd_R aO aD aN aT aL) (pd_U aL) 5).2.getD i 0 = q at *
      rw [nI_clamp (n := q) (by omega)]
      refine ⟨vp_in_nI hq5 (by omega), yp_gv hk hG hg hn hq5 (br_c (fun z => nm_r (nI_1 i) ?_) (fun z => ?_))⟩
      · have z' : aL q = pd_cu aE c q := z
        rw [if_pos z', List.append_nil] at i2
        exact i2 hle
      · have z' : ¬ aL q = pd_cu aE c q := z
        rw [if_neg z'] at et
        rw [if_neg z', ← List.append_assoc] at i2
        refine pk_eq (pd_rm (pd_cu aE c) aL 5 ++ pd_pl (pd_cu aE c) aL (gr_st (pd_R aO aD aN aT aL) (pd_U aL) 5).2 i).length j (fun w => ⟨vp_in_nI hq5 (by omega), ?_⟩) (fun w => ?_) rfl rfl (by omega) hj
        · have h' := h o a
          have e2 : pd_SL (pd_cu aE c) aL (gr_st (pd_R aO aD aN aT aL) (pd_U aL) 5).2 = (pd_rm (pd_cu aE c) aL 5 ++ pd_pl (pd_cu aE c) aL (gr_st (pd_R aO aD aN aT aL) (pd_U aL) 5).2 i) ++ ((200 + (10 * nI q)) + aL q) :: t := by
            unfold pd_SL
            rw [et, List.append_assoc, List.append_assoc]
            rfl
          rw [e2, ← w, pd_gmid] at h'
          exact h'
        · refine nm_r (nI_1 _) (nm_r (nI_1 i) ?_)
          rw [List.length_append (bs := [(200 + (10 * nI q)) + aL q])] at i2
          exact i2 (by have : [(200 + (10 * nI q)) + aL q].length = 1 := rfl; omega)
  have fin : (pd_rm (pd_cu aE c) aL 5).length ≤ j → wpY_arrange (fun u => match u with | (fw_3, fp_3, fl_3, fk_3, yN_3, fg_3, yO_3, aO_3, aP_3, aD_3, aN_3, aT_3, aR_3, aH_3, aW_3, aG_3, yA_3, yM_3, yC_3, aL_3, aK_3, aU_3, aE_3, yR_3) => (∃ n64 : Nat, wY_stepAt_64 post (nI j) fw_3 fp_3 fl_3 fk_3 yN_3 fg_3 yO_3 aO_3 aP_3 aD_3 aN_3 aT_3 aR_3 aH_3 aW_3 aG_3 yA_3 yM_3 yC_3 aL_3 aK_3 aU_3 aE_3 yR_3 n64 (nI (pd_rm (pd_cu aE c) aL 5).length) 0)) (fw, fp, fl, fk, yN, fg, yO, aO, aP, aD, aN, aT, aR, aH, aW, aG, yA, yM, yC, aL, aK, aU, aE, yR) := by
    intro hle
    refine yp_ar hI h9 (fun a ha => ?_)
    have k0 := second _ a rfl ha (gr_st (pd_R aO aD aN aT aL) (pd_U aL) 5).2.length 0 (by omega) (by rw [show pd_pl (pd_cu aE c) aL (gr_st (pd_R aO aD aN aT aL) (pd_U aL) 5).2 0 = [] from rfl, List.append_nil]; exact hle)
    rw [show pd_pl (pd_cu aE c) aL (gr_st (pd_R aO aD aN aT aL) (pd_U aL) 5).2 0 = [] from rfl, List.append_nil] at k0
    exact ⟨_, k0⟩
  have one : ∀ p, p < 5 → ∀ (W : Int32 → Int32 → Prop), (pd_rm (pd_cu aE c) aL (4 - p)).length ≤ j →
      ((pd_rm (pd_cu aE c) aL (4 - p + 1)).length ≤ j → W (nI (pd_rm (pd_cu aE c) aL (4 - p + 1)).length) (nI p + (-1))) →
      wpY_given (fun r_62 => (((r_62 ≤ 0 → (∀ x3_88 : Int32, x3_88 = nI p + (-1) → (W (nI (pd_rm (pd_cu aE c) aL (4 - p)).length) x3_88))) ∧ (¬ r_62 ≤ 0 → (wpY_given (fun r_89 => (vp_in (nI p) 5 ∧ (((r_89 = (aL (nI p).toNatClampNeg) → (∀ x3_116 : Int32, x3_116 = nI p + (-1) → (W (nI (pd_rm (pd_cu aE c) aL (4 - p)).length) x3_116))) ∧ (¬ r_89 = (aL (nI p).toNatClampNeg) → ((((nI (pd_rm (pd_cu aE c) aL (4 - p)).length) = nI j → (wpY_given (fun r_120 => (post ((100 + (10 * nI p)) + r_120) (fw, fp, fl, fk, yN, fg, yO, aO, aP, aD, aN, aT, aR, aH, aW, aG, yA, yM, yC, aL, aK, aU, aE, yR))) (fw, fp, fl, fk, yN, fg, yO, aO, aP, aD, aN, aT, aR, aH, aW, aG, yA, yM, yC, aL, aK, aU, aE, yR) (nI p))) ∧ (¬ (nI (pd_rm (pd_cu aE c) aL (4 - p)).length) = nI j → (∀ x2_118 : Int32, x2_118 = (nI (pd_rm (pd_cu aE c) aL (4 - p)).length) + 1 → (∀ x3_119 : Int32, x3_119 = nI p + (-1) → (W x2_118 x3_119))))))))))) (fw, fp, fl, fk, yN, fg, yO, aO, aP, aD, aN, aT, aR, aH, aW, aG, yA, yM, yC, aL, aK, aU, aE, yR) (nI p)))))) (fw, fp, fl, fk, yN, fg, yO, aO, aP, aD, aN, aT, aR, aH, aW, aG, yA, yM, yC, aL, aK, aU, aE, yR) (nI p) := by
    intro p hp W hle hW
    obtain ⟨v, hv, ev⟩ := hG.2.2.2.2 (5 * c + p) (by omega)
    have ev' : pd_cu aE c p = nI v := ev
    obtain ⟨t, et⟩ := pd_rmp (pd_cu aE c) aL (4 - p + 1) p
    rw [show 4 - p + 1 + p = 5 by omega] at et
    have e1 : pd_rm (pd_cu aE c) aL (4 - p + 1) = pd_rm (pd_cu aE c) aL (4 - p) ++ (if pd_cu aE c p = 0 ∨ pd_cu aE c p = aL p then [] else [(100 + (10 * nI p)) + pd_cu aE c p]) := by
      rw [pd_rm, show 4 - (4 - p) = p by omega]
    rw [e1] at hW et
    refine yp_gv hk hG hg hn hp ?_
    rw [ev]
    refine pk_le v 0 (fun z => nm_e ?_) (fun z => yp_gv hk hG hg hn hp ⟨vp_in_nI hp (by omega), ?_⟩) rfl rfl (by omega) (by omega)
    · rw [if_pos (Or.inl (by rw [ev', show v = 0 by omega]; rfl)), List.append_nil] at hW
      exact hW hle
    · rw [nI_clamp (n := p) (by omega)]
      refine br_c (fun z2 => nm_e ?_) (fun z2 => ?_)
      · have z' : pd_cu aE c p = aL p := z2
        rw [if_pos (Or.inr z'), List.append_nil] at hW
        exact hW hle
      · have z' : ¬ (pd_cu aE c p = 0 ∨ pd_cu aE c p = aL p) := fun q => q.elim (fun q => nI_ne0 z (by omega) (ev'.symm.trans q)) z2
        rw [if_neg z'] at hW et
        refine pk_eq (pd_rm (pd_cu aE c) aL (4 - p)).length j (fun w => yp_gv hk hG hg hn hp ?_) (fun w => nm_r (nI_1 _) (nm_e ?_)) rfl rfl (by omega) hj
        · have h' := h yO yR
          have e2 : pd_SL (pd_cu aE c) aL (gr_st (pd_R aO aD aN aT aL) (pd_U aL) 5).2 = pd_rm (pd_cu aE c) aL (4 - p) ++ ((100 + (10 * nI p)) + pd_cu aE c p) :: (t ++ pd_pl (pd_cu aE c) aL (gr_st (pd_R aO aD aN aT aL) (pd_U aL) 5).2 (gr_st (pd_R aO aD aN aT aL) (pd_U aL) 5).2.length) := by
            unfold pd_SL
            rw [et, List.append_assoc, List.append_assoc]
            rfl
          rw [e2, ← w, pd_gmid] at h'
          exact h'
        · rw [List.length_append] at hW
          exact hW (by have : [(100 + (10 * nI p)) + pd_cu aE c p].length = 1 := rfl; omega)
  have first : ∀ p, p < 5 → (pd_rm (pd_cu aE c) aL (4 - p)).length ≤ j → wY_stepAt_4 post (nI j) fw fp fl fk yN fg yO aO aP aD aN aT aR aH aW aG yA yM yC aL aK aU aE yR (p + 2) (nI (pd_rm (pd_cu aE c) aL (4 - p)).length) (nI p) := by
    intro p
    induction p with
    | zero =>
      intro hp hle
      exact br_f (nI_pos (by omega)) (one 0 hp (wY_stepAt_4 post (nI j) fw fp fl fk yN fg yO aO aP aD aN aT aR aH aW aG yA yM yC aL aK aU aE yR (0 + 1)) hle (fun hle' => br_t (by decide) (fin hle')))
    | succ p ih =>
      intro hp hle
      refine br_f (nI_pos (by omega)) (one (p + 1) hp (wY_stepAt_4 post (nI j) fw fp fl fk yN fg yO aO aP aD aN aT aR aH aW aG yA yM yC aL aK aU aE yR (p + 1 + 1)) hle (fun hle' => ?_))
      rw [pk_m1]
      have i2 := ih (by omega)
      rw [show 4 - p = 4 - (p + 1) + 1 by omega] at i2
      exact i2 hle'
  exact ⟨6, first 4 (by omega) (Nat.zero_le _)⟩
def pd_ns (cu aL : Nat → Int32) : Nat → Nat
  | 0 => 0
  | p + 1 => pd_ns cu aL p + (if cu p = 0 ∨ cu p = aL p then 0 else 1) + (if aL p = 0 ∨ aL p = cu p then 0 else 1)
theorem yp_stp {post : Int32 → Prop} {kn c g : Nat} (hp : ¬ fp = 0) (hk : fk = nI kn) (hG : pd_GI kn c g aU aE) (hg : g < 2 ^ 31) (hn : yN = aU c) (h9 : pd_9 aL)
    (h : post (nI (pd_ns (pd_cu aE c) aL 5))) : wpY_steps post (fw, fp, fl, fk, yN, fg, yO, aO, aP, aD, aN, aT, aR, aH, aW, aG, yA, yM, yC, aL, aK, aU, aE, yR) := by
  have h6 := hG.2.1
  have hc := hG.2.2.1
  have key : ∀ g i, i + g = 5 → wY_steps_14 post fw fp fl fk yN fg yO aO aP aD aN aT aR aH aW aG yA yM yC aL aK aU aE yR (g + 1) (nI (pd_ns (pd_cu aE c) aL i)) (nI i) := by
    intro g'
    induction g' with
    | zero =>
      intro i hi
      have e : i = 5 := by omega
      subst e
      exact br_t (by decide) h
    | succ g' ih =>
      intro i hi
      have hi5 : i < 5 := by omega
      have i2 := ih (i + 1) (by omega)
      obtain ⟨v, hv, ev⟩ := hG.2.2.2.2 (5 * c + i) (by omega)
      obtain ⟨u, hu, eu⟩ := h9 i hi5
      have ev' : pd_cu aE c i = nI v := ev
      have half : ∀ s, nI s = nI (pd_ns (pd_cu aE c) aL i + (if pd_cu aE c i = 0 ∨ pd_cu aE c i = aL i then 0 else 1)) → wY_steps_44 post (wY_steps_14 post fw fp fl fk yN fg yO aO aP aD aN aT aR aH aW aG yA yM yC aL aK aU aE yR (g' + 1)) (nI s) (nI i) fw fp fl fk yN fg yO aO aP aD aN aT aR aH aW aG yA yM yC aL aK aU aE yR := by
        intro s es
        refine ⟨vp_in_nI hi5 (by omega), ?_⟩
        rw [nI_clamp (n := i) (by omega), eu]
        refine pk_le u 0 (fun z => nm_r (nI_1 i) ?_) (fun z => yp_gv hk hG hg hn hi5 ⟨vp_in_nI hi5 (by omega), br_c (fun z2 => nm_r (nI_1 i) ?_) (fun z2 => nm_r (nI_1 _) (nm_r (nI_1 i) ?_))⟩) rfl rfl (by omega) (by omega)
        · have e3 := (by rw [pd_ns, if_pos (show aL i = 0 ∨ aL i = pd_cu aE c i from Or.inl (by rw [eu, show u = 0 by omega]; rfl))] : pd_ns (pd_cu aE c) aL (i + 1) = pd_ns (pd_cu aE c) aL i + (if pd_cu aE c i = 0 ∨ pd_cu aE c i = aL i then 0 else 1) + 0).trans (Nat.add_zero _)
          rw [e3, ← es] at i2
          exact i2
        · have e3 := (by rw [pd_ns, if_pos (show aL i = 0 ∨ aL i = pd_cu aE c i from Or.inr (eu.trans z2.symm))] : pd_ns (pd_cu aE c) aL (i + 1) = pd_ns (pd_cu aE c) aL i + (if pd_cu aE c i = 0 ∨ pd_cu aE c i = aL i then 0 else 1) + 0).trans (Nat.add_zero _)
          rw [e3, ← es] at i2
          exact i2
        · rw [pd_ns, if_neg (show ¬ (aL i = 0 ∨ aL i = pd_cu aE c i) from fun q => q.elim (fun q => nI_ne0 z (by omega) (eu.symm.trans q)) (fun q => z2 (q.symm.trans eu))), ← nI_1, ← es, nI_1] at i2
          exact i2
      refine br_f (lt5' i hi5) (yp_gv hk hG hg hn hi5 ?_)
      rw [ev]
      refine pk_le v 0 (fun z => half _ ?_) (fun z => yp_gv hk hG hg hn hi5 ⟨vp_in_nI hi5 (by omega), ?_⟩) rfl rfl (by omega) (by omega)
      · rw [if_pos (Or.inl (by rw [ev', show v = 0 by omega]; rfl)), Nat.add_zero]
      · rw [nI_clamp (n := i) (by omega)]
        refine br_c (fun z2 => half _ ?_) (fun z2 => nm_r (nI_1 _) (half _ ?_))
        · have z' : pd_cu aE c i = aL i := z2
          rw [if_pos (Or.inr z'), Nat.add_zero]
        · have z' : ¬ (pd_cu aE c i = 0 ∨ pd_cu aE c i = aL i) := fun q => q.elim (fun q => nI_ne0 z (by omega) (ev'.symm.trans q)) z2
          rw [if_neg z']
  exact br_f hp ⟨6, key 5 0 rfl⟩
theorem pd_pln (cu aL : Nat → Int32) (L : List Nat) : ∀ i, i ≤ L.length → (pd_pl cu aL L i).length = (L.take i).countP (fun p => !decide (aL p = cu p)) := by
  intro i
  induction i with
  | zero => intro _; rfl
  | succ i ih =>
    intro hi
    have e1 : L.getD i 0 = L[i] := by rw [List.getD_eq_getElem?_getD, List.getElem?_eq_getElem (by omega)]; rfl
    rw [pd_pl, List.length_append, ih (by omega), List.take_add_one, List.getElem?_eq_getElem (by omega), List.countP_append, e1]
    split
    · rename_i z
      rw [show (some L[i]).toList = [L[i]] from rfl, List.countP_singleton, decide_eq_true z]
      rfl
    · rename_i z
      rw [show (some L[i]).toList = [L[i]] from rfl, List.countP_singleton, decide_eq_false z]
      rfl
theorem pd_SLl (cu : Nat → Int32) : (pd_SL cu aL (gr_st (pd_R aO aD aN aT aL) (pd_U aL) 5).2).length = pd_ns cu aL 5 := by
  have hV := pd_RU (aO := aO) (aD := aD) (aN := aN) (aT := aT) (aL := aL)
  have hL5 := (gr_inv hV 5).1
  have q : ∀ p, p < 5 → (if (!decide (aL p = cu p)) = true then (gr_st (pd_R aO aD aN aT aL) (pd_U aL) 5).2.count p else 0) = (if aL p = 0 ∨ aL p = cu p then 0 else 1) := by
    intro p hp
    obtain ⟨a, b⟩ := gr_end hV hp
    by_cases z : aL p = cu p
    · rw [decide_eq_true z, if_pos (Or.inr z)]; rfl
    · rw [decide_eq_false z, if_pos (show (!false) = true from rfl)]
      by_cases y : aL p = 0
      · rw [if_pos (Or.inl y), b (fun w => w y)]
      · rw [if_neg (fun w => w.elim y z), a y]
  unfold pd_SL
  rw [List.length_append, pd_pln cu aL (gr_st (pd_R aO aD aN aT aL) (pd_U aL) 5).2 _ (Nat.le_refl _), List.take_length, gr_cnt5 _ _ hL5, q 0 (by omega), q 1 (by omega), q 2 (by omega), q 3 (by omega), q 4 (by omega)]
  have r : ∀ k, (pd_rm cu aL (k + 1)).length = (pd_rm cu aL k).length + (if cu (4 - k) = 0 ∨ cu (4 - k) = aL (4 - k) then 0 else 1) := by
    intro k
    rw [pd_rm, List.length_append]
    split <;> rfl
  rw [r 4, r 3, r 2, r 1, r 0]
  simp only [pd_ns, pd_rm, List.length_nil, Nat.sub_zero, Nat.reduceSub]
  omega
end
section
/-! dropping and keeping generations -/
variable {fw fp fl fk fc fg yN yO : Int32} {aV aO aP aD aN aT aR aH aW aG aL aK aU aE tA tM tB tO tS yA yM yC yR : Nat → Int32}
theorem pd_sve (a : Nat → Int32) (d s q : Nat) (h : d ≤ s) : upd (pd_sv a (5 * d) (5 * s + q) 5) (5 * s + q) (pd_sv a (5 * d) (5 * s + q) 5 (5 * (s + 1) + q)) = pd_sv a (5 * d) (5 * s + (q + 1)) 5 := by
  rw [show 5 * (s + 1) + q = 5 * s + q + 5 by omega, ← Nat.add_assoc]
  exact pd_svs a (by omega) (by omega)
theorem xp_dr {post : SX → Prop} {kn c d : Nat} (hk : fk = nI kn) (hk6 : kn ≤ 6) (hc : fc = nI c) (hck : c < kn) (hd : d < kn)
    (h : post (fw, fp, fl, nI (kn - 1), nI (if c ≤ d then c else c - 1), fg, aV, aO, aP, aD, aN, aT, aR, aH, aW, aG, aL, aK, pd_sv aU d (kn - 1) 1, pd_sv aE (5 * d) (5 * (kn - 1)) 5, tA, tM, tB, tO, tS)) : wpX_dropGeneration post (fw, fp, fl, fk, fc, fg, aV, aO, aP, aD, aN, aT, aR, aH, aW, aG, aL, aK, aU, aE, tA, tM, tB, tO, tS) (nI d) := by
  have ek : fk - 1 = nI (kn - 1) := by rw [hk]; exact pk_sub (b := 1) (by omega)
  have inner : ∀ (J : Int32 → (Nat → Int32) → (Nat → Int32) → (Nat → Int32) → (Nat → Int32) → (Nat → Int32) → (Nat → Int32) → (Nat → Int32) → (Nat → Int32) → (Nat → Int32) → (Nat → Int32) → (Nat → Int32) → (Nat → Int32) → (Nat → Int32) → (Nat → Int32) → (Nat → Int32) → (Nat → Int32) → (Nat → Int32) → (Nat → Int32) → (Nat → Int32) → Prop) (U : Nat → Int32) (s : Nat), d ≤ s → s < kn - 1 → J (nI (s + 1)) aV aO aP aD aN aT aR aH aW aG aL aK U (pd_sv aE (5 * d) (5 * (s + 1)) 5) tA tM tB tO tS → ∀ g q, q + g = 5 → wX_dropGeneration_28 post J (nI d) (nI s) fw fp fl fk fc fg (g + 1) (nI q) aV aO aP aD aN aT aR aH aW aG aL aK U (pd_sv aE (5 * d) (5 * s + q) 5) tA tM tB tO tS := by
    intro J U s hds hs hJ g
    induction g with
    | zero =>
      intro q hq
      have e : q = 5 := by omega
      subst e
      exact br_t (by decide) (nm_r (nI_1 s) hJ)
    | succ g ih =>
      intro q hq
      refine br_f (lt5' q (by omega)) ?_
      rw [nI_1 s, pd_l5, pd_l5, nI_clamp (n := 5 * s + q) (by omega), nI_clamp (n := 5 * (s + 1) + q) (by omega), pd_sve aE d s q hds]
      exact ⟨vp_in_nI (by omega) (by omega), vp_in_nI (by omega) (by omega), nm_e (nm_r (nI_1 q) (ih (q + 1) (by omega)))⟩
  have key : ∀ g s, s + g = kn - 1 → d ≤ s → wX_dropGeneration_2 post (nI d) fw fp fl fk fc fg (g + 1) (nI s) aV aO aP aD aN aT aR aH aW aG aL aK (pd_sv aU d s 1) (pd_sv aE (5 * d) (5 * s) 5) tA tM tB tO tS := by
    intro g
    induction g with
    | zero =>
      intro s hs hds
      have e : s = kn - 1 := by omega
      subst e
      refine br_t (by rw [ek]; exact nI_le (Nat.le_refl _) (by omega)) (nm_r ek ?_)
      rw [hc]
      refine pk_le c d (fun z => ?_) (fun z => nm_r (e' := nI (c - 1)) (pk_sub (b := 1) (by omega)) ?_) rfl rfl (by omega) (by omega)
      · rw [if_pos z] at h; exact h
      · rw [if_neg (by omega)] at h; exact h
    | succ g ih =>
      intro s hs hds
      refine br_f (by rw [ek]; exact nI_ge (by omega) (by omega)) ?_
      rw [nI_1 s, nI_clamp (n := s) (by omega), nI_clamp (n := s + 1) (by omega), pd_svs aU hds (by omega)]
      exact ⟨vp_in_nI (by omega) (by omega), vp_in_nI (by omega) (by omega), nm_e ⟨6, inner _ _ s hds (by omega) (ih (s + 1) (by omega) (by omega)) 5 0 rfl⟩⟩
  have k0 := key (kn - 1 - d) d (by omega) (Nat.le_refl _)
  rw [pd_sv0, pd_sv0] at k0
  exact ⟨_, k0⟩
theorem yp_dr {post : SY → Prop} {kn d : Nat} (hk : fk = nI kn) (hk6 : kn ≤ 6) (hd : d < kn)
    (h : post (fw, fp, fl, nI (kn - 1), yN, fg, yO, aO, aP, aD, aN, aT, aR, aH, aW, aG, yA, yM, yC, aL, aK, pd_sv aU d (kn - 1) 1, pd_sv aE (5 * d) (5 * (kn - 1)) 5, yR)) : wpY_drop post (fw, fp, fl, fk, yN, fg, yO, aO, aP, aD, aN, aT, aR, aH, aW, aG, yA, yM, yC, aL, aK, aU, aE, yR) (nI d) := by
  have ek : fk - 1 = nI (kn - 1) := by rw [hk]; exact pk_sub (b := 1) (by omega)
  have inner : ∀ (J : Int32 → (Nat → Int32) → (Nat → Int32) → (Nat → Int32) → (Nat → Int32) → (Nat → Int32) → (Nat → Int32) → (Nat → Int32) → (Nat → Int32) → (Nat → Int32) → (Nat → Int32) → (Nat → Int32) → (Nat → Int32) → (Nat → Int32) → (Nat → Int32) → (Nat → Int32) → (Nat → Int32) → (Nat → Int32) → Prop) (U : Nat → Int32) (s : Nat), d ≤ s → s < kn - 1 → J (nI (s + 1)) aO aP aD aN aT aR aH aW aG yA yM yC aL aK U (pd_sv aE (5 * d) (5 * (s + 1)) 5) yR → ∀ g q, q + g = 5 → wY_drop_28 post J (nI s) fw fp fl fk yN fg yO (g + 1) (nI q) aO aP aD aN aT aR aH aW aG yA yM yC aL aK U (pd_sv aE (5 * d) (5 * s + q) 5) yR := by
    intro J U s hds hs hJ g
    induction g with
    | zero =>
      intro q hq
      have e : q = 5 := by omega
      subst e
      exact br_t (by decide) (nm_r (nI_1 s) hJ)
    | succ g ih =>
      intro q hq
      have e1 : (5 : Int32) * nI s + 5 + nI q = nI (5 * (s + 1) + q) := by
        rw [show 5 * (s + 1) + q = 5 * s + 5 + q by omega, ← nI_add, ← nI_add, ← pk_mul]; rfl
      refine br_f (lt5' q (by omega)) ?_
      rw [e1, pd_l5, nI_clamp (n := 5 * s + q) (by omega), nI_clamp (n := 5 * (s + 1) + q) (by omega), pd_sve aE d s q hds]
      exact ⟨vp_in_nI (by omega) (by omega), vp_in_nI (by omega) (by omega), nm_e (nm_r (nI_1 q) (ih (q + 1) (by omega)))⟩
  have key : ∀ g s, s + g = kn - 1 → d ≤ s → wY_drop_2 post fw fp fl fk yN fg yO (g + 1) (nI s) aO aP aD aN aT aR aH aW aG yA yM yC aL aK (pd_sv aU d s 1) (pd_sv aE (5 * d) (5 * s) 5) yR := by
    intro g
    induction g with
    | zero =>
      intro s hs hds
      have e : s = kn - 1 := by omega
      subst e
      exact br_t (by rw [ek]; exact nI_le (Nat.le_refl _) (by omega)) (nm_r ek h)
    | succ g ih =>
      intro s hs hds
      refine br_f (by rw [ek]; exact nI_ge (by omega) (by omega)) ?_
      rw [nI_1 s, nI_clamp (n := s) (by omega), nI_clamp (n := s + 1) (by omega), pd_svs aU hds (by omega)]
      exact ⟨vp_in_nI (by omega) (by omega), vp_in_nI (by omega) (by omega), nm_e ⟨6, inner _ _ s hds (by omega) (ih (s + 1) (by omega) (by omega)) 5 0 rfl⟩⟩
  have k0 := key (kn - 1 - d) d (by omega) (Nat.le_refl _)
  rw [pd_sv0, pd_sv0] at k0
  exact ⟨_, k0⟩
theorem pd_GIdr {kn c g d : Nat} (hG : pd_GI kn c g aU aE) (hd : d < kn) (hdc : ¬ d = c) : pd_GI (kn - 1) (if c ≤ d then c else c - 1) g (pd_sv aU d (kn - 1) 1) (pd_sv aE (5 * d) (5 * (kn - 1)) 5) := by
  obtain ⟨h1, h6, hc, ⟨m, hm1, hm2⟩, hE⟩ := hG
  refine ⟨by omega, by omega, ?_, ⟨fun i => if d ≤ i then m (i + 1) else m i, ?_, ?_⟩, ?_⟩
  · split <;> omega
  · intro i hi
    unfold pd_sv
    dsimp only
    by_cases z : d ≤ i
    · rw [if_pos z, if_pos ⟨z, hi⟩]
      exact hm1 (i + 1) (by omega)
    · rw [if_neg z, if_neg (fun q => z q.1)]
      exact hm1 i (by omega)
  · intro i j hij hj
    dsimp only
    by_cases z : d ≤ i
    · rw [if_pos z, if_pos (by omega)]
      exact hm2 (i + 1) (j + 1) (by omega) (by omega)
    · rw [if_neg z]
      by_cases z2 : d ≤ j
      · rw [if_pos z2]; exact hm2 i (j + 1) (by omega) (by omega)
      · rw [if_neg z2]; exact hm2 i j hij (by omega)
  · intro j hj
    unfold pd_sv
    by_cases z : 5 * d ≤ j ∧ j < 5 * (kn - 1)
    · rw [if_pos z]; exact hE (j + 5) (by omega)
    · rw [if_neg z]; exact hE j hj
theorem pd_Udr {kn c d : Nat} (hc : c < kn) (hd : d < kn) (hdc : ¬ d = c) : pd_sv aU d (kn - 1) 1 (if c ≤ d then c else c - 1) = aU c := by
  unfold pd_sv
  by_cases z : c ≤ d
  · rw [if_pos z, if_neg (by omega)]
  · rw [if_neg z, if_pos (by omega), show c - 1 + 1 = c by omega]
theorem pd_GIkp {kn c g : Nat} (hG : pd_GI kn c g aU aE) (hk5 : kn ≤ 5) (h9 : pd_9 aL) : pd_GI (kn + 1) kn (g + 1) (upd aU kn (nI (g + 1))) (pd_kp aE (5 * kn) aL 5) := by
  obtain ⟨h1, h6, hc, ⟨m, hm1, hm2⟩, hE⟩ := hG
  refine ⟨by omega, by omega, by omega, ⟨fun i => if i = kn then g + 1 else m i, ?_, ?_⟩, ?_⟩
  · intro i hi
    dsimp only
    by_cases z : i = kn
    · subst z; rw [if_pos rfl, pk_us]; exact ⟨rfl, Nat.le_refl _⟩
    · rw [if_neg z, pk_un z]
      have := hm1 i (by omega)
      exact ⟨this.1, by omega⟩
  · intro i j hij hj
    dsimp only
    rw [if_neg (show ¬ i = kn by omega)]
    by_cases z : j = kn
    · rw [if_pos z]
      have := (hm1 i (by omega)).2
      omega
    · rw [if_neg z]; exact hm2 i j hij (by omega)
  · intro j hj
    unfold pd_kp
    by_cases z : 5 * kn ≤ j ∧ j < 5 * kn + 5
    · rw [if_pos z]; exact h9 (j - 5 * kn) (by omega)
    · rw [if_neg z]; exact hE j hj
theorem xp_kp {post : SX → Prop} {kn g : Nat} (hk : fk = nI kn) (hk5 : kn ≤ 5) (hg : fg = nI g)
    (h : post (fw, fp, fl, nI (kn + 1), nI kn, nI (g + 1), aV, aO, aP, aD, aN, aT, aR, aH, aW, aG, aL, aK, upd aU kn (nI (g + 1)), pd_kp aE (5 * kn) aL 5, tA, tM, tB, tO, tS)) : wpX_keepPlan post (fw, fp, fl, fk, fc, fg, aV, aO, aP, aD, aN, aT, aR, aH, aW, aG, aL, aK, aU, aE, tA, tM, tB, tO, tS) := by
  have key : ∀ g' q, q + g' = 5 → wX_keepPlan_25 post fw fp fl fk fc (nI (g + 1)) (g' + 1) (nI q) aV aO aP aD aN aT aR aH aW aG aL aK (upd aU kn (nI (g + 1))) (pd_kp aE (5 * kn) aL q) tA tM tB tO tS := by
    intro g'
    induction g' with
    | zero =>
      intro q hq
      have e : q = 5 := by omega
      subst e
      refine br_t (by decide) ?_
      rw [hk]
      exact nm_r (nI_1 kn) h
    | succ g' ih =>
      intro q hq
      refine br_f (lt5' q (by omega)) ?_
      have e1 : (5 : Int32) * fk + nI q = nI (5 * kn + q) := by rw [hk]; exact pd_l5 kn q
      rw [e1, nI_clamp (n := q) (by omega), nI_clamp (n := 5 * kn + q) (by omega), pd_kps]
      exact ⟨vp_in_nI (by omega) (by omega), vp_in_nI (by omega) (by omega), nm_e (nm_r (nI_1 q) (ih (q + 1) (by omega)))⟩
  have k0 := key 5 0 rfl
  rw [pd_kp0] at k0
  refine nm_r (e' := nI (g + 1)) (by rw [hg]; exact nI_1 g) ⟨by rw [hk]; exact vp_in_nI (by omega) (by omega), nm_r (e' := upd aU kn (nI (g + 1))) (by rw [hk, nI_clamp (by omega)]) ⟨6, k0⟩⟩
theorem yp_kp {post : Int32 → SY → Prop} {kn g : Nat} (hk : fk = nI kn) (hk5 : kn ≤ 5) (hg : fg = nI g)
    (h : post (nI (g + 1)) (fw, fp, fl, nI (kn + 1), nI (g + 1), nI (g + 1), yO, aO, aP, aD, aN, aT, aR, aH, aW, aG, yA, yM, yC, aL, aK, upd aU kn (nI (g + 1)), pd_kp aE (5 * kn) aL 5, yR)) : wY_apply_67 post fw fp fl fk yN fg yO aO aP aD aN aT aR aH aW aG yA yM yC aL aK aU aE yR := by
  have key : ∀ g' q, q + g' = 5 → wY_apply_92 post fw fp fl fk yN (nI (g + 1)) yO (g' + 1) (nI q) aO aP aD aN aT aR aH aW aG yA yM yC aL aK (upd aU kn (nI (g + 1))) (pd_kp aE (5 * kn) aL q) yR := by
    intro g'
    induction g' with
    | zero =>
      intro q hq
      have e : q = 5 := by omega
      subst e
      refine br_t (by decide) (nm_r (e' := nI (kn + 1)) (by rw [hk]; exact nI_1 kn) h)
    | succ g' ih =>
      intro q hq
      refine br_f (lt5' q (by omega)) ?_
      have e1 : (5 : Int32) * fk + nI q = nI (5 * kn + q) := by rw [hk]; exact pd_l5 kn q
      rw [e1, nI_clamp (n := q) (by omega), nI_clamp (n := 5 * kn + q) (by omega), pd_kps]
      exact ⟨vp_in_nI (by omega) (by omega), vp_in_nI (by omega) (by omega), nm_e (nm_r (nI_1 q) (ih (q + 1) (by omega)))⟩
  have k0 := key 5 0 rfl
  rw [pd_kp0] at k0
  refine nm_r (e' := nI (g + 1)) (by rw [hg]; exact nI_1 g) ⟨by rw [hk]; exact vp_in_nI (by omega) (by omega), nm_r (e' := upd aU kn (nI (g + 1))) (by rw [hk, nI_clamp (by omega)]) ⟨6, k0⟩⟩
end
section
/-! the relation; arguments; counting the versions of a package -/
section
def pd_J (k : Nat) (fw fk fc fg yN : Int32) (aV aO aD aT aW aL aK aU aE : Nat → Int32) : Prop := ∃ w kn c g : Nat, fw = nI w ∧ w ≤ 4 ∧ fk = nI kn ∧ fc = nI c ∧ fg = nI g ∧ g ≤ k ∧ yN = aU c ∧ pd_GI kn c g aU aE ∧ pd_I aD aT aW ∧ pd_I2 aD aT ∧ pd_4 aO ∧ pd_V aV aO ∧ pd_9 aL ∧ pd_9 aK
/-- what both keep alike is one function; versionCount counts offered; the current slot holds the current number -/
def i_Rel (k : Nat) (u : SX) (v : SY) : Prop := ∃ (fw fp fl fk fc fg yN yO : Int32) (aV aO aP aD aN aT aR aH aW aG aL aK aU aE tA tM tB tO tS yA yM yC yR : Nat → Int32), u = (fw, fp, fl, fk, fc, fg, aV, aO, aP, aD, aN, aT, aR, aH, aW, aG, aL, aK, aU, aE, tA, tM, tB, tO, tS) ∧ v = (fw, fp, fl, fk, yN, fg, yO, aO, aP, aD, aN, aT, aR, aH, aW, aG, yA, yM, yC, aL, aK, aU, aE, yR) ∧ pd_J k fw fk fc fg yN aV aO aD aT aW aL aK aU aE
theorem i_up {k : Nat} {u : SX} {v : SY} (h : i_Rel k u v) : i_Rel (k + 5) u v := by
  obtain ⟨fw, fp, fl, fk, fc, fg, yN, yO, aV, aO, aP, aD, aN, aT, aR, aH, aW, aG, aL, aK, aU, aE, tA, tM, tB, tO, tS, yA, yM, yC, yR, rfl, rfl, ⟨w, kn, c, g, ew, hw, ek, ec, eg, hgk, en, hG, hI, hI2, h4, hV, h9, hK⟩⟩ := h
  exact ⟨_, _, _, _, _, _, _, _, _, _, _, _, _, _, _, _, _, _, _, _, _, _, _, _, _, _, _, _, _, _, _, rfl, rfl, ⟨w, kn, c, g, ew, hw, ek, ec, eg, by omega, en, hG, hI, hI2, h4, hV, h9, hK⟩⟩
theorem i_vc0 : wpX_init (fun u => wpY_init (fun v => i_Rel 0 u v)) := by
  refine ⟨_, _, _, _, _, _, _, _, _, _, _, _, _, _, _, _, _, _, _, _, _, _, _, _, _, _, _, _, _, _, _, rfl, rfl, ⟨0, 1, 0, 0, rfl, by omega, rfl, rfl, rfl, by omega, rfl, ⟨by omega, by omega, by omega, ⟨fun _ => 0, fun _ _ => ⟨rfl, Nat.le_refl _⟩, fun i j h1 h2 => by omega⟩, fun _ _ => ⟨0, by omega, rfl⟩⟩, ⟨fun _ _ => ⟨0, by omega, rfl⟩, fun _ _ => ⟨0, by omega, rfl⟩, fun _ _ => ⟨0, by omega, rfl⟩⟩, ?_, ?_, ?_, fun _ _ => ⟨0, by omega, rfl⟩, fun _ _ => ⟨0, by omega, rfl⟩⟩⟩
  · intro c hc i hi
    exact absurd hi (Nat.not_lt_zero _)
  · intro p hp
    exact Nat.zero_le _
  · intro p hp
    rfl
end
section
variable {fw fp fl fk fc fg yN yO : Int32} {aV aO aP aD aN aT aR aH aW aG aL aK aU aE tA tM tB tO tS yA yM yC yR : Nat → Int32}
theorem pd_mk {k w kn c g : Nat} (ew : fw = nI w) (hw : w ≤ 4) (ek : fk = nI kn) (ec : fc = nI c) (eg : fg = nI g) (hgk : g ≤ k) (en : yN = aU c) (hG : pd_GI kn c g aU aE) (hI : pd_I aD aT aW) (hI2 : pd_I2 aD aT) (h4 : pd_4 aO) (hV : pd_V aV aO) (h9 : pd_9 aL) (hK : pd_9 aK) : i_Rel k (fw, fp, fl, fk, fc, fg, aV, aO, aP, aD, aN, aT, aR, aH, aW, aG, aL, aK, aU, aE, tA, tM, tB, tO, tS) (fw, fp, fl, fk, yN, fg, yO, aO, aP, aD, aN, aT, aR, aH, aW, aG, yA, yM, yC, aL, aK, aU, aE, yR) :=
  ⟨_, _, _, _, _, _, _, _, _, _, _, _, _, _, _, _, _, _, _, _, _, _, _, _, _, _, _, _, _, _, _, rfl, rfl, ⟨w, kn, c, g, ew, hw, ek, ec, eg, hgk, en, hG, hI, hI2, h4, hV, h9, hK⟩⟩
theorem xp_pk1 {post : Int32 → Prop} {p : Nat} (hp : p < 5) (h : post 1) : wpX_isPack post (nI p) :=
  br_f (nI_pos (by omega)) (br_f (lt5' p hp) h)
theorem yp_pk1 {post : Int32 → Prop} {p : Nat} (hp : p < 5) (h : post 1) : wpY_goodPack post (fw, fp, fl, fk, yN, fg, yO, aO, aP, aD, aN, aT, aR, aH, aW, aG, yA, yM, yC, aL, aK, aU, aE, yR) (nI p) :=
  br_f (nI_pos (by omega)) (br_f (lt5' p hp) h)
theorem xp_pk0 {post : Int32 → Prop} {x : Int32} (hx : x < 0 ∨ nI 5 ≤ x) (h : post 0) : wpX_isPack post x := by
  by_cases z : x < 0
  · exact br_t z h
  · exact br_f z (br_t (hx.resolve_left z) h)
theorem yp_pk0 {post : Int32 → Prop} {x : Int32} (hx : x < 0 ∨ nI 5 ≤ x) (h : post 0) : wpY_goodPack post (fw, fp, fl, fk, yN, fg, yO, aO, aP, aD, aN, aT, aR, aH, aW, aG, yA, yM, yC, aL, aK, aU, aE, yR) x := by
  by_cases z : x < 0
  · exact br_t z h
  · exact br_f z (br_t (hx.resolve_left z) h)
theorem pd_pk (x : Int32) : (x < 0 ∨ nI 5 ≤ x) ∨ ∃ p, p < 5 ∧ x = nI p := by
  rcases pk_ix x (n := 5) (by omega) with h | h | h
  · exact Or.inl (Or.inl h)
  · exact Or.inl (Or.inr h)
  · exact Or.inr h
theorem pd_ve (x : Int32) : (x < 1 ∨ 9 < x) ∨ ∃ v, 1 ≤ v ∧ v ≤ 9 ∧ x = nI v := by
  by_cases z : x < 1
  · exact Or.inl (Or.inl z)
  · by_cases y : 9 < x
    · exact Or.inl (Or.inr y)
    · have h0 : ¬ x < 0 := fun q => z (Int32.lt_trans q (by decide))
      obtain ⟨j, hj, rfl⟩ := nI_of h0
      refine Or.inr ⟨j, ?_, ?_, rfl⟩
      · have : ¬ j < 1 := fun q => z (nI_lt (b := 1) q (by decide))
        omega
      · have : ¬ 9 < j := fun q => y (nI_lt (a := 9) q hj)
        omega
theorem xp_ve1 {post : Int32 → Prop} {v : Nat} (h1 : 1 ≤ v) (h9 : v ≤ 9) (h : post 1) : wpX_isVersion post (nI v) :=
  br_f (nI_nlt (b := 1) h1 (by omega)) (br_f (nI_nlt (a := 9) h9 (by decide)) h)
theorem yp_ve1 {post : Int32 → Prop} {v : Nat} (h1 : 1 ≤ v) (h9 : v ≤ 9) (h : post 1) : wpY_goodVersion post (fw, fp, fl, fk, yN, fg, yO, aO, aP, aD, aN, aT, aR, aH, aW, aG, yA, yM, yC, aL, aK, aU, aE, yR) (nI v) :=
  br_f (nI_nlt (b := 1) h1 (by omega)) (br_f (nI_nlt (a := 9) h9 (by decide)) h)
theorem xp_ve0 {post : Int32 → Prop} {x : Int32} (hx : x < 1 ∨ 9 < x) (h : post 0) : wpX_isVersion post x := by
  by_cases z : x < 1
  · exact br_t z h
  · exact br_f z (br_t (hx.resolve_left z) h)
theorem yp_ve0 {post : Int32 → Prop} {x : Int32} (hx : x < 1 ∨ 9 < x) (h : post 0) : wpY_goodVersion post (fw, fp, fl, fk, yN, fg, yO, aO, aP, aD, aN, aT, aR, aH, aW, aG, yA, yM, yC, aL, aK, aU, aE, yR) x := by
  by_cases z : x < 1
  · exact br_t z h
  · exact br_f z (br_t (hx.resolve_left z) h)
def pd_GR (x : Int32) : Prop := ∃ n, 11 ≤ n ∧ n ≤ 99 ∧ n / 10 ≤ n % 10 ∧ x = nI n
theorem pd_d10 {n : Nat} (h : n < 2 ^ 31) : nI n / 10 = nI (n / 10) := pk_div (d := 10) h (by omega) (by omega)
theorem pd_m10 {n : Nat} (h : n < 2 ^ 31) : nI n - nI n / 10 * 10 = nI (n % 10) := pk_rem (d := 10) h (by omega) (by omega)
theorem pd_neg10 {x : Int32} (h : x < 0) : x / 10 < 1 := by
  rw [Int32.lt_iff_toInt_lt] at h ⊢
  rw [Int32.toInt_div]
  have e0 : (0 : Int32).toInt = 0 := by decide
  have e1 : (1 : Int32).toInt = 1 := by decide
  have e10 : (10 : Int32).toInt = 10 := by decide
  rw [e0] at h
  rw [e1, e10]
  have hlo := Int32.le_toInt x
  have e2 : x.toInt.tdiv 10 = -((-x.toInt).tdiv 10) := by rw [Int.neg_tdiv, Int.neg_neg]
  have h3 : 0 ≤ (-x.toInt).tdiv 10 := Int.tdiv_nonneg (by omega) (by omega)
  have h4 : (-x.toInt).tdiv 10 ≤ -x.toInt := by
    rw [Int.tdiv_eq_ediv_of_nonneg (by omega)]
    omega
  rw [e2, Int.bmod_eq_of_le (by omega) (by omega)]
  omega
theorem xp_rg {post : Int32 → Prop} {x : Int32} (h1 : pd_GR x → post 1) (h0 : ¬ pd_GR x → post 0) : wpX_isRange post x := by
  unfold wpX_isRange
  refine ⟨by decide, ?_⟩
  by_cases z : x < 0
  · refine nm_e ⟨by decide, nm_e (br_t (pd_neg10 z) (h0 ?_))⟩
    rintro ⟨n, _, hn, _, e⟩
    rw [e] at z
    exact nI_pos (by omega) z
  · obtain ⟨n, hn, rfl⟩ := nI_of z
    refine nm_r (pd_d10 hn) ⟨by decide, nm_r (pd_m10 hn) ?_⟩
    have inj : ∀ m, m ≤ 99 → nI n = nI m → n = m := fun m hm e => (nI_eq hn (by omega)).mp e
    refine pk_lt (n / 10) 1 (fun a => h0 ?_) (fun a => pk_lt (n % 10) (n / 10) (fun b => h0 ?_) (fun b => h1 ⟨n, by omega, by omega, b, rfl⟩) rfl rfl (by omega) (by omega)) rfl rfl (by omega) (by omega)
    · rintro ⟨m, c1, c2, c3, e⟩
      have := inj m c2 e
      omega
    · rintro ⟨m, c1, c2, c3, e⟩
      have := inj m c2 e
      subst this
      omega
theorem yp_rg {post : Int32 → Prop} {x : Int32} (h1 : pd_GR x → post 1) (h0 : ¬ pd_GR x → post 0) : wpY_goodRange post (fw, fp, fl, fk, yN, fg, yO, aO, aP, aD, aN, aT, aR, aH, aW, aG, yA, yM, yC, aL, aK, aU, aE, yR) x := by
  unfold wpY_goodRange
  dsimp only
  by_cases z : x < 0
  · refine br_t (Int32.lt_trans z (by decide)) (h0 ?_)
    rintro ⟨n, _, hn, _, e⟩
    rw [e] at z
    exact nI_pos (by omega) z
  · obtain ⟨n, hn, rfl⟩ := nI_of z
    have inj : ∀ m, m ≤ 99 → nI n = nI m → n = m := fun m hm e => (nI_eq hn (by omega)).mp e
    rw [pd_m10 hn, pd_d10 hn]
    refine pk_lt n 11 (fun a => h0 ?_) (fun a => pk_lt 99 n (fun b => h0 ?_) (fun b => ⟨by decide, by decide, pk_lt (n % 10) (n / 10) (fun d => h0 ?_) (fun d => h1 ⟨n, by omega, by omega, d, rfl⟩) rfl rfl (by omega) (by omega)⟩) rfl rfl (by omega) (by omega)) rfl rfl (by omega) (by omega)
    · rintro ⟨m, c1, c2, c3, e⟩
      have := inj m c2 e
      omega
    · rintro ⟨m, c1, c2, c3, e⟩
      have := inj m c2 e
      omega
    · rintro ⟨m, c1, c2, c3, e⟩
      have := inj m c2 e
      subst this
      omega
theorem yp_co {post : Int32 → Prop} {p : Nat} (hp : p < 5) (h : post (nI (pd_L aO p).length)) : wpY_countOf post (fw, fp, fl, fk, yN, fg, yO, aO, aP, aD, aN, aT, aR, aH, aW, aG, yA, yM, yC, aL, aK, aU, aE, yR) (nI p) := by
  have key : ∀ g i, i + g = 9 → wY_countOf_4 post (nI p) fw fp fl fk yN fg yO aO aP aD aN aT aR aH aW aG yA yM yC aL aK aU aE yR (g + 1) (nI (pd_ds (pd_h aO p) i).length) (nI (i + 1)) := by
    intro g
    induction g with
    | zero =>
      intro i hi
      have e : i = 9 := by omega
      subst e
      exact br_t (by decide) h
    | succ g ih =>
      intro i hi
      have i2 := ih (i + 1) (by omega)
      refine br_f (nI_ge (b := 10) (by omega) (by decide)) ?_
      rw [pd_l10, nI_clamp (n := 10 * p + (i + 1)) (by omega)]
      refine ⟨vp_in_nI (by omega) (by omega), br_c (fun z => nm_r (nI_1 _) ?_) (fun z => nm_r (nI_1 _) (nm_r (nI_1 _) ?_))⟩
      · rw [pd_dsN (pd_h0 z)] at i2
        exact i2
      · rw [pd_dsP (pd_h1 z), List.length_cons] at i2
        exact i2
  exact ⟨10, key 9 0 rfl⟩
theorem pd_Lo {p q v : Nat} {x : Int32} (hv : v ≤ 9) (hqp : ¬ q = p) : pd_L (upd aO (10 * p + v) x) q = pd_L aO q := by
  unfold pd_L
  apply pd_ds_congr
  intro u h1 h9
  unfold pd_h
  rw [pk_un (by omega)]
theorem pd_Lp {p v : Nat} {x : Int32} (h1 : 1 ≤ v) (hv : v ≤ 9) (h0 : aO (10 * p + v) = 0) (hx : ¬ x = 0) : (pd_L (upd aO (10 * p + v) x) p).length = (pd_L aO p).length + 1 := by
  unfold pd_L
  refine pd_ds_add (v := v) (pd_h0 h0) (pd_h1 (by rw [pk_us]; exact hx)) ?_ h1 9 hv
  intro u hu
  unfold pd_h
  rw [pk_un (by omega)]
theorem pd_Lm {p v : Nat} {x : Int32} (h1 : 1 ≤ v) (hv : v ≤ 9) (h0 : ¬ aO (10 * p + v) = 0) (hx : x = 0) : (pd_L aO p).length = (pd_L (upd aO (10 * p + v) x) p).length + 1 := by
  unfold pd_L
  refine pd_ds_add (v := v) (pd_h0 (by rw [pk_us]; exact hx)) (pd_h1 h0) ?_ h1 9 hv
  intro u hu
  unfold pd_h
  rw [pk_un (by omega)]
end
end
section
/-! offer, withdraw, demand, wish, unwish -/
theorem i_vc_offer {k : Nat} {u : SX} {v : SY} (I : i_Rel k u v) (hk : k + 5 ≤ 2560) (v1 : Int32) (v2 : Int32) (v3 : Int32) : wpX_offer (fun r u' => wpY_offer (fun r' v' => r' = r ∧ i_Rel (k + 5) u' v') v v1 v2 v3) u v1 v2 v3 := by
  obtain ⟨fw, fp, fl, fk, fc, fg, yN, yO, aV, aO, aP, aD, aN, aT, aR, aH, aW, aG, aL, aK, aU, aE, tA, tM, tB, tO, tS, yA, yM, yC, yR, rfl, rfl, ⟨w, kn, c, g, ew, hw, ek, ec, eg, hgk, en, hG, hI, hI2, h4, hV, h9, hK⟩⟩ := I
  have R0 : i_Rel (k + 5) (fw, fp, fl, fk, fc, fg, aV, aO, aP, aD, aN, aT, aR, aH, aW, aG, aL, aK, aU, aE, tA, tM, tB, tO, tS) (fw, fp, fl, fk, yN, fg, yO, aO, aP, aD, aN, aT, aR, aH, aW, aG, yA, yM, yC, aL, aK, aU, aE, yR) := pd_mk ew hw ek ec eg (by omega) en hG hI hI2 h4 hV h9 hK
  rcases pd_pk v1 with hp | ⟨p, hp, rfl⟩
  · unfold wpX_offer
    refine xp_pk0 hp (br_t rfl ?_)
    unfold wpY_offer
    exact yp_pk0 hp (br_t rfl ⟨rfl, R0⟩)
  rcases pd_ve v2 with hv | ⟨v, hv1, hv9, rfl⟩
  · unfold wpX_offer
    refine xp_pk1 hp (br_f (by decide) (xp_ve0 hv (br_t rfl ?_)))
    unfold wpY_offer
    exact yp_pk1 hp (br_f (by decide) (yp_ve0 hv (br_t rfl ⟨rfl, R0⟩)))
  by_cases h0 : v3 < 0
  · unfold wpX_offer
    refine xp_pk1 hp (br_f (by decide) (xp_ve1 hv1 hv9 (br_f (by decide) (br_t h0 ?_))))
    unfold wpY_offer
    exact yp_pk1 hp (br_f (by decide) (yp_ve1 hv1 hv9 (br_f (by decide) (br_t h0 ⟨rfl, R0⟩))))
  by_cases h2 : v3 ≤ 255
  case neg =>
    unfold wpX_offer
    refine xp_pk1 hp (br_f (by decide) (xp_ve1 hv1 hv9 (br_f (by decide) (br_f h0 (br_f h2 ?_)))))
    unfold wpY_offer
    exact yp_pk1 hp (br_f (by decide) (yp_ve1 hv1 hv9 (br_f (by decide) (br_f h0 (br_f h2 ⟨rfl, R0⟩)))))
  have hl : 10 * p + v < 50 := by omega
  have hc := vp_in_nI (n := 10 * p + v) (N := 50) hl (by omega)
  have hp' := vp_in_nI (n := p) (N := 5) hp (by omega)
  have hlen := h4 p hp
  unfold wpX_offer
  refine xp_pk1 hp (br_f (by decide) (xp_ve1 hv1 hv9 (br_f (by decide) (br_f h0 (br_t h2 (nm_r (pd_l10 p v) ⟨hc, ?_⟩))))))
  rw [nI_clamp (n := 10 * p + v) (by omega), nI_clamp (n := p) (by omega), hV p hp]
  by_cases hz : aO (10 * p + v) = 0
  case neg =>
    refine br_f hz ?_
    unfold wpY_offer
    refine yp_pk1 hp (br_f (by decide) (yp_ve1 hv1 hv9 (br_f (by decide) (br_f h0 (br_t h2 (nm_r (pd_l10 p v) ⟨hc, ?_⟩))))))
    rw [nI_clamp (n := 10 * p + v) (by omega)]
    exact br_f hz ⟨rfl, R0⟩
  refine br_t hz ⟨hp', pk_lt (pd_L aO p).length 4 (fun hlt => ⟨hc, nm_e ⟨hc, nm_e ⟨hc, nm_e ⟨hp', hp', nm_e ⟨hp', ?_⟩⟩⟩⟩⟩) (fun hge => ?_) rfl rfl (by omega) (by omega)⟩
  · unfold wpY_offer
    refine yp_pk1 hp (br_f (by decide) (yp_ve1 hv1 hv9 (br_f (by decide) (br_f h0 (br_t h2 (nm_r (pd_l10 p v) ⟨hc, ?_⟩))))))
    rw [nI_clamp (n := 10 * p + v) (by omega)]
    have hL := pd_Lp (aO := aO) (x := vp_nar .boolean 1) hv1 hv9 hz (by rw [pd_nb1]; decide)
    refine br_t hz (yp_co hp (br_f (by exact fun q => absurd ((nI_eq (b := 4) (by omega) (by omega)).mp q) (by omega)) ⟨hc, nm_e ⟨hc, nm_e ⟨hc, nm_e (yp_co hp ⟨?_, ?_⟩)⟩⟩⟩))
    · rw [hL, pk_us, nI_1]
    · refine pd_mk ew hw ek ec eg (by omega) en hG ⟨?_, hI.2.1, hI.2.2⟩ ?_ ?_ ?_ h9 hK
      · intro c hc50
        by_cases q : c = 10 * p + v
        · subst q; rw [pk_us]; exact ⟨0, by omega, rfl⟩
        · rw [pk_un q]; exact hI.1 c hc50
      · intro c hc50 i hi
        by_cases q : c = 10 * p + v
        · subst q
          rw [pk_us] at hi
          exact absurd hi (Nat.not_lt_zero _)
        · rw [pk_un q] at hi; exact hI2 c hc50 i hi
      · intro q hq
        by_cases z : q = p
        · subst z; rw [hL]; omega
        · rw [pd_Lo hv9 z]; exact h4 q hq
      · intro q hq
        by_cases z : q = p
        · subst z; rw [pk_us, hL, nI_1]
        · rw [pk_un z, pd_Lo hv9 z]; exact hV q hq
  · unfold wpY_offer
    refine yp_pk1 hp (br_f (by decide) (yp_ve1 hv1 hv9 (br_f (by decide) (br_f h0 (br_t h2 (nm_r (pd_l10 p v) ⟨hc, ?_⟩))))))
    rw [nI_clamp (n := 10 * p + v) (by omega)]
    exact br_t hz (yp_co hp (br_t (by rw [show (pd_L aO p).length = 4 by omega]; rfl) ⟨rfl, R0⟩))
theorem i_vc_withdraw {k : Nat} {u : SX} {v : SY} (I : i_Rel k u v) (hk : k + 5 ≤ 2560) (v1 : Int32) (v2 : Int32) : wpX_withdraw (fun r u' => wpY_withdraw (fun r' v' => r' = r ∧ i_Rel (k + 5) u' v') v v1 v2) u v1 v2 := by
  obtain ⟨fw, fp, fl, fk, fc, fg, yN, yO, aV, aO, aP, aD, aN, aT, aR, aH, aW, aG, aL, aK, aU, aE, tA, tM, tB, tO, tS, yA, yM, yC, yR, rfl, rfl, ⟨w, kn, c, g, ew, hw, ek, ec, eg, hgk, en, hG, hI, hI2, h4, hV, h9, hK⟩⟩ := I
  have R0 : i_Rel (k + 5) (fw, fp, fl, fk, fc, fg, aV, aO, aP, aD, aN, aT, aR, aH, aW, aG, aL, aK, aU, aE, tA, tM, tB, tO, tS) (fw, fp, fl, fk, yN, fg, yO, aO, aP, aD, aN, aT, aR, aH, aW, aG, yA, yM, yC, aL, aK, aU, aE, yR) := pd_mk ew hw ek ec eg (by omega) en hG hI hI2 h4 hV h9 hK
  rcases pd_pk v1 with hp | ⟨p, hp, rfl⟩
  · unfold wpX_withdraw
    refine xp_pk0 hp (br_t rfl ?_)
    unfold wpY_withdraw
    exact yp_pk0 hp (br_t rfl ⟨rfl, R0⟩)
  rcases pd_ve v2 with hv | ⟨v, hv1, hv9, rfl⟩
  · unfold wpX_withdraw
    refine xp_pk1 hp (br_f (by decide) (xp_ve0 hv (br_t rfl ?_)))
    unfold wpY_withdraw
    exact yp_pk1 hp (br_f (by decide) (yp_ve0 hv (br_t rfl ⟨rfl, R0⟩)))
  have hl : 10 * p + v < 50 := by omega
  have hc := vp_in_nI (n := 10 * p + v) (N := 50) hl (by omega)
  have hp' := vp_in_nI (n := p) (N := 5) hp (by omega)
  have hlen := h4 p hp
  unfold wpX_withdraw
  refine xp_pk1 hp (br_f (by decide) (xp_ve1 hv1 hv9 (br_f (by decide) (nm_r (pd_l10 p v) ⟨hc, ?_⟩))))
  rw [nI_clamp (n := 10 * p + v) (by omega), nI_clamp (n := p) (by omega), hV p hp]
  by_cases hz : aO (10 * p + v) = 0
  · refine br_t hz ?_
    unfold wpY_withdraw
    refine yp_pk1 hp (br_f (by decide) (yp_ve1 hv1 hv9 (br_f (by decide) ?_)))
    rw [pd_l10, nI_clamp (n := 10 * p + v) (by omega)]
    exact ⟨hc, br_t hz ⟨rfl, R0⟩⟩
  · refine br_f hz ⟨hc, nm_e ⟨hp', hp', nm_e ⟨hp', ?_⟩⟩⟩
    unfold wpY_withdraw
    refine yp_pk1 hp (br_f (by decide) (yp_ve1 hv1 hv9 (br_f (by decide) ?_)))
    rw [pd_l10, nI_clamp (n := 10 * p + v) (by omega)]
    have hL := pd_Lm (aO := aO) (x := vp_nar .boolean 0) hv1 hv9 hz pd_nb0
    have e1 : nI (pd_L aO p).length - 1 = nI (pd_L (upd aO (10 * p + v) (vp_nar .boolean 0)) p).length := by
      rw [hL]; exact pk_sub (b := 1) (by omega)
    refine ⟨hc, br_f hz ⟨hc, nm_e (yp_co hp ⟨?_, ?_⟩)⟩⟩
    · rw [pk_us, e1]
    · refine pd_mk ew hw ek ec eg (by omega) en hG hI hI2 ?_ ?_ h9 hK
      · intro q hq
        by_cases z : q = p
        · subst z; omega
        · rw [pd_Lo hv9 z]; exact h4 q hq
      · intro q hq
        by_cases z : q = p
        · subst z; rw [pk_us, e1]
        · rw [pk_un z, pd_Lo hv9 z]; exact hV q hq
theorem i_vc_demand {k : Nat} {u : SX} {v : SY} (I : i_Rel k u v) (hk : k + 5 ≤ 2560) (v1 : Int32) (v2 : Int32) (v3 : Int32) (v4 : Int32) : wpX_demand (fun r u' => wpY_demand (fun r' v' => r' = r ∧ i_Rel (k + 5) u' v') v (lw_bz v1) v2 v3 v4) u (lw_bz v1) v2 v3 v4 := by
  obtain ⟨fw, fp, fl, fk, fc, fg, yN, yO, aV, aO, aP, aD, aN, aT, aR, aH, aW, aG, aL, aK, aU, aE, tA, tM, tB, tO, tS, yA, yM, yC, yR, rfl, rfl, ⟨w, kn, c, g, ew, hw, ek, ec, eg, hgk, en, hG, hI, hI2, h4, hV, h9, hK⟩⟩ := I
  have R0 : i_Rel (k + 5) (fw, fp, fl, fk, fc, fg, aV, aO, aP, aD, aN, aT, aR, aH, aW, aG, aL, aK, aU, aE, tA, tM, tB, tO, tS) (fw, fp, fl, fk, yN, fg, yO, aO, aP, aD, aN, aT, aR, aH, aW, aG, yA, yM, yC, aL, aK, aU, aE, yR) := pd_mk ew hw ek ec eg (by omega) en hG hI hI2 h4 hV h9 hK
  rcases pk_ix v2 (n := 50) (by omega) with hn | hn | ⟨e, he, rfl⟩
  · unfold wpX_demand wpX_isCell
    refine br_t hn (br_t rfl ?_)
    unfold wpY_demand
    exact br_t hn ⟨rfl, R0⟩
  · have h0 : ¬ v2 < 0 := fun q => absurd (Int32.lt_of_lt_of_le q (by decide : (0 : Int32) ≤ nI 50)) (Int32.not_lt.mpr hn)
    have h49 : (49 : Int32) < v2 := Int32.lt_of_lt_of_le (by decide : (49 : Int32) < nI 50) hn
    unfold wpX_demand wpX_isCell
    refine br_f h0 (br_t hn (br_t rfl ?_))
    unfold wpY_demand
    exact br_f h0 (br_t h49 ⟨rfl, R0⟩)
  have e0 : ¬ nI e < 0 := nI_pos (by omega)
  have e50 : ¬ (50 : Int32) ≤ nI e := nI_ge (b := 50) he (by decide)
  have e49 : ¬ (49 : Int32) < nI e := nI_nlt (a := 49) (by omega) (by decide)
  have em := pd_m10 (n := e) (by omega)
  have ed := pd_d10 (n := e) (by omega)
  by_cases hm : e % 10 = 0
  · have hm' : nI e - nI e / 10 * 10 = 0 := by rw [em, hm]; rfl
    unfold wpX_demand wpX_isCell
    refine br_f e0 (br_f e50 ⟨by decide, br_t hm' (br_t rfl ?_)⟩)
    unfold wpY_demand
    exact br_f e0 (br_f e49 ⟨by decide, br_t hm' ⟨rfl, R0⟩⟩)
  have hm' : ¬ nI e - nI e / 10 * 10 = 0 := by rw [em]; exact nI_ne0 (by omega) (by omega)
  rcases pd_pk v3 with hp | ⟨p, hp, rfl⟩
  · unfold wpX_demand wpX_isCell
    refine br_f e0 (br_f e50 ⟨by decide, br_f hm' (br_f (by decide) (xp_pk0 hp (br_t rfl ?_)))⟩)
    unfold wpY_demand
    exact br_f e0 (br_f e49 ⟨by decide, br_f hm' (yp_pk0 hp (br_t rfl ⟨rfl, R0⟩))⟩)
  by_cases ho : p = e / 10
  · have ho' : nI p = nI e / 10 := by rw [ed, ho]
    unfold wpX_demand wpX_isCell
    refine br_f e0 (br_f e50 ⟨by decide, br_f hm' (br_f (by decide) (xp_pk1 hp (br_f (by decide) ⟨by decide, br_t ho' ?_⟩)))⟩)
    unfold wpY_demand
    exact br_f e0 (br_f e49 ⟨by decide, br_f hm' (yp_pk1 hp (br_f (by decide) ⟨by decide, br_t ho' ⟨rfl, R0⟩⟩))⟩)
  have ho' : ¬ nI p = nI e / 10 := by rw [ed]; exact fun q => ho ((nI_eq (by omega) (by omega)).mp q)
  by_cases hr : pd_GR v4
  case neg =>
    unfold wpX_demand wpX_isCell
    refine br_f e0 (br_f e50 ⟨by decide, br_f hm' (br_f (by decide) (xp_pk1 hp (br_f (by decide) ⟨by decide, br_f ho' (xp_rg (fun q => absurd q hr) (fun _ => br_t rfl ?_))⟩)))⟩)
    unfold wpY_demand
    exact br_f e0 (br_f e49 ⟨by decide, br_f hm' (yp_pk1 hp (br_f (by decide) ⟨by decide, br_f ho' (yp_rg (fun q => absurd q hr) (fun _ => br_t rfl ⟨rfl, R0⟩))⟩))⟩)
  obtain ⟨d, hd, hD⟩ := hI.1 e he
  have hc := vp_in_nI (n := e) (N := 50) he (by omega)
  unfold wpX_demand wpX_isCell
  refine br_f e0 (br_f e50 ⟨by decide, br_f hm' (br_f (by decide) (xp_pk1 hp (br_f (by decide) ⟨by decide, br_f ho' (xp_rg (fun _ => br_f (by decide) ⟨hc, ?_⟩) (fun q => absurd hr q))⟩)))⟩)
  rw [nI_clamp (n := e) (by omega), hD]
  by_cases hz : aO e = 0
  · refine br_t hz ?_
    unfold wpY_demand
    refine br_f e0 (br_f e49 ⟨by decide, br_f hm' (yp_pk1 hp (br_f (by decide) ⟨by decide, br_f ho' (yp_rg (fun _ => br_f (by decide) ⟨hc, ?_⟩) (fun q => absurd hr q))⟩))⟩)
    rw [nI_clamp (n := e) (by omega)]
    exact br_t hz ⟨rfl, R0⟩
  refine br_f hz ⟨hc, pk_lt d 3 (fun hlt => ⟨hc, nm_r (pd_l3 e d) ?_⟩) (fun hge => ?_) rfl rfl (by omega) (by omega)⟩
  · have hs : 3 * e + d < 150 := by omega
    have hsv := vp_in_nI (n := 3 * e + d) (N := 150) hs (by omega)
    rw [nI_clamp (n := 3 * e + d) (by omega)]
    refine ⟨hsv, nm_e ⟨hsv, nm_e ⟨hsv, nm_e ⟨hc, hc, nm_e ⟨hc, ?_⟩⟩⟩⟩⟩
    unfold wpY_demand
    refine br_f e0 (br_f e49 ⟨by decide, br_f hm' (yp_pk1 hp (br_f (by decide) ⟨by decide, br_f ho' (yp_rg (fun _ => br_f (by decide) ⟨hc, ?_⟩) (fun q => absurd hr q))⟩))⟩)
    rw [nI_clamp (n := e) (by omega), hD]
    refine br_f hz ⟨hc, br_f (fun q => absurd ((nI_eq (b := 3) (by omega) (by omega)).mp q) (by omega)) ⟨hc, nm_r (pd_l3 e d) ?_⟩⟩
    rw [nI_clamp (n := 3 * e + d) (by omega)]
    refine ⟨hsv, nm_e ⟨hsv, nm_e ⟨hsv, nm_e ⟨hc, hc, nm_e ⟨hc, rfl, ?_⟩⟩⟩⟩⟩
    refine pd_mk ew hw ek ec eg (by omega) en hG ⟨?_, ?_, hI.2.2⟩ ?_ h4 hV h9 hK
    · intro c hc50
      by_cases q : c = e
      · subst q; rw [pk_us, nI_1]; exact ⟨d + 1, by omega, rfl⟩
      · rw [pk_un q]; exact hI.1 c hc50
    · intro s hs150
      by_cases q : s = 3 * e + d
      · subst q; rw [pk_us]; exact ⟨p, hp, rfl⟩
      · rw [pk_un q]; exact hI.2.1 s hs150
    · intro c hc50 i hi
      by_cases q : c = e
      · subst q
        rw [pk_us, nI_1, nI_clamp (by omega)] at hi
        by_cases z : i = d
        · subst z
          rw [pk_us]
          exact fun w => ho ((nI_eq (by omega) (by omega)).mp w)
        · rw [pk_un (by omega)]
          exact hI2 c hc50 i (by rw [hD, nI_clamp (by omega)]; omega)
      · rw [pk_un q] at hi
        obtain ⟨d2, hd2, hD2⟩ := hI.1 c hc50
        have hi2 := hi
        rw [hD2, nI_clamp (by omega)] at hi2
        rw [pk_un (by omega)]
        exact hI2 c hc50 i hi
  · unfold wpY_demand
    refine br_f e0 (br_f e49 ⟨by decide, br_f hm' (yp_pk1 hp (br_f (by decide) ⟨by decide, br_f ho' (yp_rg (fun _ => br_f (by decide) ⟨hc, ?_⟩) (fun q => absurd hr q))⟩))⟩)
    rw [nI_clamp (n := e) (by omega), hD]
    exact br_f hz ⟨hc, br_t (by rw [show d = 3 by omega]; rfl) ⟨rfl, R0⟩⟩
theorem i_vc_wish {k : Nat} {u : SX} {v : SY} (I : i_Rel k u v) (hk : k + 5 ≤ 2560) (v1 : Int32) (v2 : Int32) (v3 : Int32) : wpX_wish (fun r u' => wpY_wish (fun r' v' => r' = r ∧ i_Rel (k + 5) u' v') v (lw_bz v1) v2 v3) u (lw_bz v1) v2 v3 := by
  obtain ⟨fw, fp, fl, fk, fc, fg, yN, yO, aV, aO, aP, aD, aN, aT, aR, aH, aW, aG, aL, aK, aU, aE, tA, tM, tB, tO, tS, yA, yM, yC, yR, rfl, rfl, ⟨w, kn, c, g, ew, hw, ek, ec, eg, hgk, en, hG, hI, hI2, h4, hV, h9, hK⟩⟩ := I
  have R0 : i_Rel (k + 5) (fw, fp, fl, fk, fc, fg, aV, aO, aP, aD, aN, aT, aR, aH, aW, aG, aL, aK, aU, aE, tA, tM, tB, tO, tS) (fw, fp, fl, fk, yN, fg, yO, aO, aP, aD, aN, aT, aR, aH, aW, aG, yA, yM, yC, aL, aK, aU, aE, yR) := pd_mk ew hw ek ec eg (by omega) en hG hI hI2 h4 hV h9 hK
  rcases pd_pk v2 with hp | ⟨p, hp, rfl⟩
  · unfold wpX_wish
    refine xp_pk0 hp (br_t rfl ?_)
    unfold wpY_wish
    exact yp_pk0 hp (br_t rfl ⟨rfl, R0⟩)
  by_cases hr : pd_GR v3
  case neg =>
    unfold wpX_wish
    refine xp_pk1 hp (br_f (by decide) (xp_rg (fun q => absurd q hr) (fun _ => br_t rfl ?_)))
    unfold wpY_wish
    exact yp_pk1 hp (br_f (by decide) (yp_rg (fun q => absurd q hr) (fun _ => br_t rfl ⟨rfl, R0⟩)))
  unfold wpX_wish
  refine xp_pk1 hp (br_f (by decide) (xp_rg (fun _ => br_f (by decide) ?_) (fun q => absurd hr q)))
  rw [ew]
  refine pk_lt w 4 (fun hlt => ?_) (fun hge => ?_) rfl rfl (by omega) (by omega)
  · have hv := vp_in_nI (n := w) (N := 4) hlt (by omega)
    rw [nI_clamp (n := w) (by omega)]
    refine ⟨hv, nm_e ⟨hv, nm_e ⟨hv, nm_e (nm_r (nI_1 w) ?_)⟩⟩⟩
    unfold wpY_wish
    refine yp_pk1 hp (br_f (by decide) (yp_rg (fun _ => br_f (by decide) ?_) (fun q => absurd hr q)))
    refine br_f (fun q => absurd ((nI_eq (b := 4) (by omega) (by omega)).mp q) (by omega)) ?_
    rw [nI_clamp (n := w) (by omega)]
    refine ⟨hv, nm_e ⟨hv, nm_e ⟨hv, nm_e (nm_r (nI_1 w) ⟨rfl, ?_⟩)⟩⟩⟩
    refine pd_mk rfl (by omega) ek ec eg (by omega) en hG ⟨hI.1, hI.2.1, ?_⟩ hI2 h4 hV h9 hK
    intro i hi
    by_cases q : i = w
    · subst q; rw [pk_us]; exact ⟨p, hp, rfl⟩
    · rw [pk_un q]; exact hI.2.2 i hi
  · rw [ew] at R0
    unfold wpY_wish
    exact yp_pk1 hp (br_f (by decide) (yp_rg (fun _ => br_f (by decide) (br_t (by rw [show w = 4 by omega]; rfl) ⟨rfl, R0⟩)) (fun q => absurd hr q)))
section
variable {fw fp fl fk fc fg yN yO : Int32} {aV aO aP aD aN aT aR aH aW aG aL aK aU aE tA tM tB tO tS yA yM yC yR : Nat → Int32}
theorem xy_uw {w : Nat} (hw : w ≤ 4) (hw0 : 0 < w) : ∀ g i, i + g = w - 1 → ∀ aH aW aG : Nat → Int32, (∀ i, i < 4 → ∃ o, o < 5 ∧ aW i = nI o) → ∃ aH' aW' aG' : Nat → Int32, (∀ i, i < 4 → ∃ o, o < 5 ∧ aW' i = nI o) ∧
    (∀ (post : Int32 → SX → Prop) fp fl fk fc fg aV aO aP aD aN aT aR aL aK aU aE tA tM tB tO tS, post (nI (w - 1)) (nI (w - 1), fp, fl, fk, fc, fg, aV, aO, aP, aD, aN, aT, aR, aH', aW', aG', aL, aK, aU, aE, tA, tM, tB, tO, tS) → wX_unwish_16 post (nI w) fp fl fk fc fg (g + 1) (nI i) aV aO aP aD aN aT aR aH aW aG aL aK aU aE tA tM tB tO tS) ∧
    (∀ (post : Int32 → SY → Prop) fp fl fk yN fg yO aO aP aD aN aT aR yA yM yC aL aK aU aE yR, post (nI (w - 1)) (nI (w - 1), fp, fl, fk, yN, fg, yO, aO, aP, aD, aN, aT, aR, aH', aW', aG', yA, yM, yC, aL, aK, aU, aE, yR) → wY_unwish_16 post (nI w) fp fl fk yN fg yO (g + 1) (nI i) aO aP aD aN aT aR aH aW aG yA yM yC aL aK aU aE yR) := by
  have ek : nI w - 1 = nI (w - 1) := pk_sub (b := 1) (by omega)
  intro g
  induction g with
  | zero =>
    intro i hi aH aW aG hW
    refine ⟨aH, aW, aG, hW, ?_, ?_⟩
    · intros
      exact br_t (by rw [ek]; exact nI_le (by omega) (by omega)) (nm_r ek (by assumption))
    · intros
      exact br_t (by rw [ek]; exact nI_le (by omega) (by omega)) (nm_r ek (by assumption))
  | succ g ih =>
    intro i hi aH aW aG hW
    obtain ⟨aH', aW', aG', h1, h2, h3⟩ := ih (i + 1) (by omega) (upd aH i (vp_nar .boolean (aH (i + 1)))) (upd aW i (aW (i + 1))) (upd aG i (aG (i + 1))) (by
      intro j hj
      by_cases q : j = i
      · subst q; rw [pk_us]; exact hW (j + 1) (by omega)
      · rw [pk_un q]; exact hW j hj)
    have v0 := vp_in_nI (n := i) (N := 4) (by omega) (by omega)
    have v1 := vp_in_nI (n := i + 1) (N := 4) (by omega) (by omega)
    refine ⟨aH', aW', aG', h1, ?_, ?_⟩
    · intros
      refine br_f (by rw [ek]; exact nI_ge (by omega) (by omega)) ?_
      rw [nI_1 i, nI_clamp (n := i) (by omega), nI_clamp (n := i + 1) (by omega)]
      exact ⟨v1, v0, nm_e ⟨v1, v0, nm_e ⟨v1, v0, nm_e (nm_e (h2 _ _ _ _ _ _ _ _ _ _ _ _ _ _ _ _ _ _ _ _ _ _ (by assumption)))⟩⟩⟩
    · intros
      refine br_f (by rw [ek]; exact nI_ge (by omega) (by omega)) ?_
      rw [nI_1 i, nI_clamp (n := i) (by omega), nI_clamp (n := i + 1) (by omega)]
      exact ⟨v1, v0, nm_e ⟨v1, v0, nm_e ⟨v1, v0, nm_e (nm_e (h3 _ _ _ _ _ _ _ _ _ _ _ _ _ _ _ _ _ _ _ _ _ (by assumption)))⟩⟩⟩
end
theorem i_vc_unwish {k : Nat} {u : SX} {v : SY} (I : i_Rel k u v) (hk : k + 5 ≤ 2560) (v1 : Int32) : wpX_unwish (fun r u' => wpY_unwish (fun r' v' => r' = r ∧ i_Rel (k + 5) u' v') v v1) u v1 := by
  obtain ⟨fw, fp, fl, fk, fc, fg, yN, yO, aV, aO, aP, aD, aN, aT, aR, aH, aW, aG, aL, aK, aU, aE, tA, tM, tB, tO, tS, yA, yM, yC, yR, rfl, rfl, ⟨w, kn, c, g, ew, hw, ek, ec, eg, hgk, en, hG, hI, hI2, h4, hV, h9, hK⟩⟩ := I
  have R0 : i_Rel (k + 5) (fw, fp, fl, fk, fc, fg, aV, aO, aP, aD, aN, aT, aR, aH, aW, aG, aL, aK, aU, aE, tA, tM, tB, tO, tS) (fw, fp, fl, fk, yN, fg, yO, aO, aP, aD, aN, aT, aR, aH, aW, aG, yA, yM, yC, aL, aK, aU, aE, yR) := pd_mk ew hw ek ec eg (by omega) en hG hI hI2 h4 hV h9 hK
  rcases pk_ix v1 (n := w) (by omega) with h | h | ⟨i, hi, rfl⟩
  · exact br_t h (br_t h ⟨rfl, R0⟩)
  · have h0 : ¬ v1 < 0 := fun q => absurd (Int32.lt_of_lt_of_le q (nI_pos' (n := w) (by omega))) (Int32.not_lt.mpr h)
    have h1 : ¬ v1 < fw := by rw [ew]; exact Int32.not_lt.mpr h
    exact br_f h0 (br_f h1 (br_f h0 (br_f h1 ⟨rfl, R0⟩)))
  · have h0 : ¬ nI i < 0 := nI_pos (by omega)
    have h1 : nI i < fw := by rw [ew]; exact nI_lt hi (by omega)
    obtain ⟨aH', aW', aG', g1, g2, g3⟩ := xy_uw hw (by omega) (w - 1 - i) i (by omega) aH aW aG hI.2.2
    refine br_f h0 (br_t h1 ⟨w - 1 - i + 1, ?_⟩)
    rw [ew]
    refine g2 _ _ _ _ _ _ _ _ _ _ _ _ _ _ _ _ _ _ _ _ _ _ (br_f h0 (br_t (nI_lt hi (by omega)) ⟨w - 1 - i + 1, g3 _ _ _ _ _ _ _ _ _ _ _ _ _ _ _ _ _ _ _ _ _ ⟨rfl, ?_⟩⟩))
    exact pd_mk rfl (by omega) ek ec eg (by omega) en hG ⟨hI.1, hI.2.1, g1⟩ hI2 h4 hV h9 hK
end
section
/-! solve, chosen, solutions, possible, blame, lock, locked, reuse -/
section
variable {fw fp fl fk fc fg yN yO : Int32} {aV aO aP aD aN aT aR aH aW aG aL aK aU aE tA tM tB tO tS yA yM yC yR : Nat → Int32}
theorem pd_9cp {a b : Nat → Int32} (h : pd_9 b) : pd_9 (pd_cp a b 5) := fun p hp => by rw [pd_cpe hp]; exact h p hp
def pd_Ix (aO aK : Nat → Int32) : Prop := ∀ p, p < 5 → ¬ aK p = 0 → ¬ aO (10 * p + (aK p).toNatClampNeg) = 0
theorem xp_ii {post : Int32 → Prop} (hK : pd_9 aK) (h1 : pd_Ix aO aK → post 1) (h0 : ¬ pd_Ix aO aK → post 0) : wpX_isInIndex__lockedIn post (fw, fp, fl, fk, fc, fg, aV, aO, aP, aD, aN, aT, aR, aH, aW, aG, aL, aK, aU, aE, tA, tM, tB, tO, tS) := by
  have key : ∀ g i, i + g = 5 → (∀ p, p < i → ¬ aK p = 0 → ¬ aO (10 * p + (aK p).toNatClampNeg) = 0) → wX_isInIndex__lockedIn_2 post fw fp fl fk fc fg aV aO aP aD aN aT aR aH aW aG aL aK aU aE tA tM tB tO tS (g + 1) (nI i) := by
    intro g
    induction g with
    | zero =>
      intro i hi hj
      have e : i = 5 := by omega
      subst e
      exact br_t (by decide) (h1 hj)
    | succ g ih =>
      intro i hi hj
      have hi5 : i < 5 := by omega
      obtain ⟨x, hx, ex⟩ := hK i hi5
      have et : (aK i).toNatClampNeg = x := by rw [ex, nI_clamp (by omega)]
      have ee : (10 : Int32) * nI i + aK i = nI (10 * i + x) := by rw [ex]; exact pd_l10 i x
      refine br_f (lt5' i hi5) ⟨vp_in_nI hi5 (by omega), ?_⟩
      rw [nI_clamp (n := i) (by omega), ee, nI_clamp (n := 10 * i + x) (by omega)]
      refine br_c (fun z => nm_r (nI_1 i) (ih (i + 1) (by omega) ?_)) (fun z => ⟨vp_in_nI hi5 (by omega), vp_in_nI (by omega) (by omega), br_c (fun y => h0 ?_) (fun y => nm_r (nI_1 i) (ih (i + 1) (by omega) ?_))⟩)
      · intro p hp
        by_cases q : p = i
        · subst q; exact fun w => absurd z w
        · exact hj p (by omega)
      · intro q
        have := q i hi5 z
        rw [et] at this
        exact this y
      · intro p hp
        by_cases q : p = i
        · subst q; rw [et]; exact fun _ => y
        · exact hj p (by omega)
  exact ⟨6, key 5 0 rfl (fun p hp => absurd hp (Nat.not_lt_zero _))⟩
theorem yp_lh {post : Int32 → SY → Prop} {w : Nat} (hw : fw = nI w) (hw4 : w ≤ 4) (hI : pd_I aD aT aW) (hK : pd_9 aK)
    (h1 : pd_Ix aO aK ∧ pd_Q w aP aD aN aT aR aH aW aG aK → ∀ c, post 1 (fw, fp, fl, fk, yN, fg, yO, aO, aP, aD, aN, aT, aR, aH, aW, aG, yA, yM, c, aL, aK, aU, aE, yR)) (h0 : ¬ (pd_Ix aO aK ∧ pd_Q w aP aD aN aT aR aH aW aG aK) → ∀ c, post 0 (fw, fp, fl, fk, yN, fg, yO, aO, aP, aD, aN, aT, aR, aH, aW, aG, yA, yM, c, aL, aK, aU, aE, yR)) : wpY_lockHolds post (fw, fp, fl, fk, yN, fg, yO, aO, aP, aD, aN, aT, aR, aH, aW, aG, yA, yM, yC, aL, aK, aU, aE, yR) := by
  have key : ∀ g i, i + g = 5 → (∀ p, p < i → ¬ aK p = 0 → ¬ aO (10 * p + (aK p).toNatClampNeg) = 0) → wY_lockHolds_2 post fw fp fl fk yN fg yO (g + 1) (nI i) aO aP aD aN aT aR aH aW aG yA yM (pd_cp yC aK i) aL aK aU aE yR := by
    intro g
    induction g with
    | zero =>
      intro i hi hj
      have e : i = 5 := by omega
      subst e
      have qi := pd_Qi (w := w) (aP := aP) (aN := aN) (aR := aR) (aH := aH) (aG := aG) hw4 hI (pd_9cp (a := yC) hK) (fun p hp => pd_cpe hp)
      exact br_t (by decide) (yp_sol hw hw4 hI (pd_9cp hK) (fun q => ⟨rfl, h1 ⟨hj, qi.mp q⟩ _⟩) (fun q => ⟨rfl, h0 (fun y => q (qi.mpr y.2)) _⟩))
    | succ g ih =>
      intro i hi hj
      have hi5 : i < 5 := by omega
      obtain ⟨x, hx, ex⟩ := hK i hi5
      have et : (aK i).toNatClampNeg = x := by rw [ex, nI_clamp (by omega)]
      have e1 : pd_cp yC aK (i + 1) i = aK i := pd_cpe (by omega)
      have ee : (10 : Int32) * nI i + aK i = nI (10 * i + x) := by rw [ex]; exact pd_l10 i x
      refine br_f (lt5' i hi5) ⟨vp_in_nI hi5 (by omega), vp_in_nI hi5 (by omega), ?_⟩
      rw [nI_clamp (n := i) (by omega), pd_cps]
      refine nm_e ⟨vp_in_nI hi5 (by omega), ?_⟩
      rw [e1, ee, nI_clamp (n := 10 * i + x) (by omega), ex]
      refine pk_le x 0 (fun z => nm_r (nI_1 i) (ih (i + 1) (by omega) ?_)) (fun z => ⟨vp_in_nI hi5 (by omega), vp_in_nI (by omega) (by omega), br_c (fun y => h0 ?_ _) (fun y => nm_r (nI_1 i) (ih (i + 1) (by omega) ?_))⟩) rfl rfl (by omega) (by omega)
      · intro p hp
        by_cases q : p = i
        · subst q; exact fun w => absurd (show aK p = 0 by rw [ex, show x = 0 by omega]; rfl) w
        · exact hj p (by omega)
      · intro q
        have := q.1 i hi5 (by rw [ex]; exact nI_ne0 z (by omega))
        rw [et] at this
        exact this y
      · intro p hp
        by_cases q : p = i
        · subst q; rw [et]; exact fun _ => y
        · exact hj p (by omega)
  have k0 := key 5 0 rfl (fun p hp => absurd hp (Nat.not_lt_zero _))
  rw [pd_cp0] at k0
  exact ⟨6, k0⟩
theorem yp_lk {post : Int32 → SY → Prop} (h9 : pd_9 aL) (h : ∀ c, post (nI (pd_n aL 5)) (fw, fp, 1, fk, yN, fg, yO, aO, aP, aD, aN, aT, aR, aH, aW, aG, yA, yM, c, aL, pd_cp aK aL 5, aU, aE, yR)) : ∃ n17 : Nat, wY_lock_17 post fw fp 1 fk yN fg yO n17 0 aO aP aD aN aT aR aH aW aG yA yM yC aL aK aU aE yR := by
  have key : ∀ g i, i + g = 5 → wY_lock_17 post fw fp 1 fk yN fg yO (g + 1) (nI i) aO aP aD aN aT aR aH aW aG yA yM (pd_cp yC aL i) aL (pd_cp aK aL i) aU aE yR := by
    intro g
    induction g with
    | zero =>
      intro i hi
      have e : i = 5 := by omega
      subst e
      refine br_t (by decide) (yp_sz (pd_9cp h9) ?_)
      rw [pd_nc (c := pd_cp yC aL 5) (c' := aL) 5 (fun p hp => pd_cpe hp)]
      exact h _
    | succ g ih =>
      intro i hi
      have hi5 : i < 5 := by omega
      have hv := vp_in_nI (n := i) (N := 5) hi5 (by omega)
      refine br_f (lt5' i hi5) ⟨hv, hv, ?_⟩
      rw [nI_clamp (n := i) (by omega), pd_cps, pd_cps]
      exact nm_e ⟨hv, hv, nm_e (nm_r (nI_1 i) (ih (i + 1) (by omega)))⟩
  have k0 := key 5 0 rfl
  rw [pd_cp0, pd_cp0] at k0
  exact ⟨6, k0⟩
theorem yp_ru {post : Int32 → SY → Prop} (h : post 10 (fw, 1, fl, fk, yN, fg, yO, aO, aP, aD, aN, aT, aR, aH, aW, aG, yA, yM, yC, pd_cp aL aK 5, aK, aU, aE, yR)) : ∃ n26 : Nat, wY_reuse_26 post fw 1 fl fk yN fg yO n26 0 aO aP aD aN aT aR aH aW aG yA yM yC aL aK aU aE yR := by
  have key : ∀ g i, i + g = 5 → wY_reuse_26 post fw 1 fl fk yN fg yO (g + 1) (nI i) aO aP aD aN aT aR aH aW aG yA yM yC (pd_cp aL aK i) aK aU aE yR := by
    intro g
    induction g with
    | zero =>
      intro i hi
      have e : i = 5 := by omega
      subst e
      exact br_t (by decide) h
    | succ g ih =>
      intro i hi
      have hi5 : i < 5 := by omega
      have hv := vp_in_nI (n := i) (N := 5) hi5 (by omega)
      refine br_f (lt5' i hi5) ⟨hv, hv, ?_⟩
      rw [nI_clamp (n := i) (by omega), pd_cps]
      exact nm_e (nm_r (nI_1 i) (ih (i + 1) (by omega)))
  have k0 := key 5 0 rfl
  rw [pd_cp0] at k0
  exact ⟨6, k0⟩
end
theorem i_vc_solve {k : Nat} {u : SX} {v : SY} (I : i_Rel k u v) (hk : k + 5 ≤ 2560) : wpX_solve (fun r u' => wpY_solve (fun r' v' => r' = r ∧ i_Rel (k + 5) u' v') v) u := by
  obtain ⟨fw, fp, fl, fk, fc, fg, yN, yO, aV, aO, aP, aD, aN, aT, aR, aH, aW, aG, aL, aK, aU, aE, tA, tM, tB, tO, tS, yA, yM, yC, yR, rfl, rfl, ⟨w, kn, c, g, ew, hw, ek, ec, eg, hgk, en, hG, hI, hI2, h4, hV, h9, hK⟩⟩ := I
  obtain ⟨j, hj, hN, hF⟩ := gr_nxe (fun i => pd_Q w aP aD aN aT aR aH aW aG (pd_ci aO i)) (pd_T aO)
  refine xp_solve ew hw hI h4 hV hj hN hF (fun z t => ?_) (fun z t => ?_)
  · exact yp_solve ew hw hI h4 hj hN hF (fun _ a m c => ⟨rfl, pd_mk ew hw ek ec eg (by omega) en hG hI hI2 h4 hV h9 hK⟩) (fun z2 => absurd z2 (by omega))
  · exact yp_solve ew hw hI h4 hj hN hF (fun z2 => absurd z (by omega)) (fun _ a m c => ⟨rfl, pd_mk ew hw ek ec eg (by omega) en hG hI hI2 h4 hV (pd_9cp (pd_ci9 aO j)) hK⟩)
theorem i_vc_chosen {k : Nat} {u : SX} {v : SY} (I : i_Rel k u v) (hk : k + 5 ≤ 2560) (v1 : Int32) : wpX_chosen (fun r => wpY_chosen (fun r' => r' = r ∧ i_Rel (k + 5) u v) v v1) u v1 := by
  obtain ⟨fw, fp, fl, fk, fc, fg, yN, yO, aV, aO, aP, aD, aN, aT, aR, aH, aW, aG, aL, aK, aU, aE, tA, tM, tB, tO, tS, yA, yM, yC, yR, rfl, rfl, ⟨w, kn, c, g, ew, hw, ek, ec, eg, hgk, en, hG, hI, hI2, h4, hV, h9, hK⟩⟩ := I
  have R0 : i_Rel (k + 5) (fw, fp, fl, fk, fc, fg, aV, aO, aP, aD, aN, aT, aR, aH, aW, aG, aL, aK, aU, aE, tA, tM, tB, tO, tS) (fw, fp, fl, fk, yN, fg, yO, aO, aP, aD, aN, aT, aR, aH, aW, aG, yA, yM, yC, aL, aK, aU, aE, yR) := pd_mk ew hw ek ec eg (by omega) en hG hI hI2 h4 hV h9 hK
  unfold wpX_chosen
  rcases pd_pk v1 with hp | ⟨p, hp, rfl⟩
  · refine xp_pk0 hp (br_t rfl ?_)
    unfold wpY_chosen
    exact yp_pk0 hp (br_t rfl ⟨rfl, R0⟩)
  · have hv := vp_in_nI (n := p) (N := 5) hp (by omega)
    refine xp_pk1 hp (br_f (by decide) (br_c (fun z => ?_) (fun z => ⟨hv, ?_⟩)))
    · unfold wpY_chosen
      exact yp_pk1 hp (br_f (by decide) (br_t z ⟨rfl, R0⟩))
    · unfold wpY_chosen
      exact yp_pk1 hp (br_f (by decide) (br_f z ⟨hv, rfl, R0⟩))
theorem i_vc_solutions {k : Nat} {u : SX} {v : SY} (I : i_Rel k u v) (hk : k + 5 ≤ 2560) : wpX_solutions (fun r u' => wpY_solutions (fun r' v' => r' = r ∧ i_Rel (k + 5) u' v') v) u := by
  obtain ⟨fw, fp, fl, fk, fc, fg, yN, yO, aV, aO, aP, aD, aN, aT, aR, aH, aW, aG, aL, aK, aU, aE, tA, tM, tB, tO, tS, yA, yM, yC, yR, rfl, rfl, ⟨w, kn, c, g, ew, hw, ek, ec, eg, hgk, en, hG, hI, hI2, h4, hV, h9, hK⟩⟩ := I
  exact xp_sols ew hw hI h4 hV (fun t => yp_sols ew hw hI h4 (fun a m c => ⟨rfl, pd_mk ew hw ek ec eg (by omega) en hG hI hI2 h4 hV h9 hK⟩))
theorem i_vc_possible {k : Nat} {u : SX} {v : SY} (I : i_Rel k u v) (hk : k + 5 ≤ 2560) (v1 : Int32) (v2 : Int32) : wpX_possible (fun r u' => wpY_possible (fun r' v' => r' = r ∧ i_Rel (k + 5) u' v') v v1 v2) u v1 v2 := by
  obtain ⟨fw, fp, fl, fk, fc, fg, yN, yO, aV, aO, aP, aD, aN, aT, aR, aH, aW, aG, aL, aK, aU, aE, tA, tM, tB, tO, tS, yA, yM, yC, yR, rfl, rfl, ⟨w, kn, c, g, ew, hw, ek, ec, eg, hgk, en, hG, hI, hI2, h4, hV, h9, hK⟩⟩ := I
  have R0 : i_Rel (k + 5) (fw, fp, fl, fk, fc, fg, aV, aO, aP, aD, aN, aT, aR, aH, aW, aG, aL, aK, aU, aE, tA, tM, tB, tO, tS) (fw, fp, fl, fk, yN, fg, yO, aO, aP, aD, aN, aT, aR, aH, aW, aG, yA, yM, yC, aL, aK, aU, aE, yR) := pd_mk ew hw ek ec eg (by omega) en hG hI hI2 h4 hV h9 hK
  unfold wpX_possible
  rcases pd_pk v1 with hp | ⟨p, hp, rfl⟩
  · refine xp_pk0 hp (br_t rfl ?_)
    unfold wpY_possible
    exact yp_pk0 hp (br_t rfl ⟨rfl, R0⟩)
  by_cases h0 : v2 < 0
  · refine xp_pk1 hp (br_f (by decide) (br_t h0 ?_))
    unfold wpY_possible
    exact yp_pk1 hp (br_f (by decide) (br_t h0 ⟨rfl, R0⟩))
  by_cases h9' : v2 ≤ 9
  case neg =>
    refine xp_pk1 hp (br_f (by decide) (br_f h0 (br_f h9' ?_)))
    unfold wpY_possible
    exact yp_pk1 hp (br_f (by decide) (br_f h0 (br_f h9' ⟨rfl, R0⟩)))
  obtain ⟨v, hv, rfl⟩ := nI_of2 (n := 9) (by decide) h0 h9'
  obtain ⟨j, hj, hN, hF⟩ := gr_nxe (fun i => pd_ci aO i p = nI v ∧ pd_Q w aP aD aN aT aR aH aW aG (pd_ci aO i)) (pd_T aO)
  refine xp_pk1 hp (br_f (by decide) (br_f h0 (br_t h9' (xp_cc hV (xp_st (fun t ht => ⟨_, xp_pos hp hv ew hw hI h4 hj hN hF (fun z t => ?_) (fun z t => ?_) j 0 (by omega) t ht⟩))))))
  · unfold wpY_possible
    exact yp_pk1 hp (br_f (by decide) (br_f h0 (br_t h9' (yp_list h4 (fun a m hO => ⟨_, yp_pos hO hp hv ew hw hI h4 hj hN hF (fun _ c => ⟨rfl, pd_mk ew hw ek ec eg (by omega) en hG hI hI2 h4 hV h9 hK⟩) (fun z2 => absurd z2 (by omega)) j 0 (by omega) yC⟩)))))
  · unfold wpY_possible
    exact yp_pk1 hp (br_f (by decide) (br_f h0 (br_t h9' (yp_list h4 (fun a m hO => ⟨_, yp_pos hO hp hv ew hw hI h4 hj hN hF (fun z2 => absurd z (by omega)) (fun _ c => ⟨rfl, pd_mk ew hw ek ec eg (by omega) en hG hI hI2 h4 hV h9 hK⟩) j 0 (by omega) yC⟩)))))
theorem i_vc_blame {k : Nat} {u : SX} {v : SY} (I : i_Rel k u v) (hk : k + 5 ≤ 2560) : wpX_blame (fun r u' => wpY_blame (fun r' v' => r' = r ∧ i_Rel (k + 5) u' v') v) u := by
  obtain ⟨fw, fp, fl, fk, fc, fg, yN, yO, aV, aO, aP, aD, aN, aT, aR, aH, aW, aG, aL, aK, aU, aE, tA, tM, tB, tO, tS, yA, yM, yC, yR, rfl, rfl, ⟨w, kn, c, g, ew, hw, ek, ec, eg, hgk, en, hG, hI, hI2, h4, hV, h9, hK⟩⟩ := I
  refine xp_blame ew hw hI h4 hV (fun hC t M => ?_) (fun hC r hr t M => ?_)
  · exact yp_blame ew hw hI h4 (fun _ a m c => ⟨rfl, pd_mk ew hw ek ec eg (by omega) en hG hI hI2 h4 hV h9 hK⟩) (fun z => absurd hC z)
  · exact yp_blame ew hw hI h4 (fun z => absurd z hC) (fun _ r' hr' a m c => ⟨by rw [pd_Beu hr hr'], pd_mk ew hw ek ec eg (by omega) en hG hI hI2 h4 hV h9 hK⟩)
theorem i_vc_lock {k : Nat} {u : SX} {v : SY} (I : i_Rel k u v) (hk : k + 5 ≤ 2560) : wpX_lock (fun r u' => wpY_lock (fun r' v' => r' = r ∧ i_Rel (k + 5) u' v') v) u := by
  obtain ⟨fw, fp, fl, fk, fc, fg, yN, yO, aV, aO, aP, aD, aN, aT, aR, aH, aW, aG, aL, aK, aU, aE, tA, tM, tB, tO, tS, yA, yM, yC, yR, rfl, rfl, ⟨w, kn, c, g, ew, hw, ek, ec, eg, hgk, en, hG, hI, hI2, h4, hV, h9, hK⟩⟩ := I
  have R0 : i_Rel (k + 5) (fw, fp, fl, fk, fc, fg, aV, aO, aP, aD, aN, aT, aR, aH, aW, aG, aL, aK, aU, aE, tA, tM, tB, tO, tS) (fw, fp, fl, fk, yN, fg, yO, aO, aP, aD, aN, aT, aR, aH, aW, aG, yA, yM, yC, aL, aK, aU, aE, yR) := pd_mk ew hw ek ec eg (by omega) en hG hI hI2 h4 hV h9 hK
  refine br_c (fun z => br_t z ⟨rfl, R0⟩) (fun z => xp_cp_planned_lockedIn (xp_cg_lockedIn ?_))
  refine br_f z (yp_lk h9 (fun c => ⟨?_, pd_mk ew hw ek ec eg (by omega) en hG hI hI2 h4 hV h9 (pd_9cp h9)⟩))
  rw [pd_nc (c := pd_cp aK aL 5) (c' := aL) 5 (fun p hp => pd_cpe hp)]
theorem i_vc_locked {k : Nat} {u : SX} {v : SY} (I : i_Rel k u v) (hk : k + 5 ≤ 2560) (v1 : Int32) : wpX_locked (fun r => wpY_locked (fun r' => r' = r ∧ i_Rel (k + 5) u v) v v1) u v1 := by
  obtain ⟨fw, fp, fl, fk, fc, fg, yN, yO, aV, aO, aP, aD, aN, aT, aR, aH, aW, aG, aL, aK, aU, aE, tA, tM, tB, tO, tS, yA, yM, yC, yR, rfl, rfl, ⟨w, kn, c, g, ew, hw, ek, ec, eg, hgk, en, hG, hI, hI2, h4, hV, h9, hK⟩⟩ := I
  have R0 : i_Rel (k + 5) (fw, fp, fl, fk, fc, fg, aV, aO, aP, aD, aN, aT, aR, aH, aW, aG, aL, aK, aU, aE, tA, tM, tB, tO, tS) (fw, fp, fl, fk, yN, fg, yO, aO, aP, aD, aN, aT, aR, aH, aW, aG, yA, yM, yC, aL, aK, aU, aE, yR) := pd_mk ew hw ek ec eg (by omega) en hG hI hI2 h4 hV h9 hK
  unfold wpX_locked
  rcases pd_pk v1 with hp | ⟨p, hp, rfl⟩
  · refine xp_pk0 hp (br_t rfl ?_)
    unfold wpY_locked
    exact yp_pk0 hp (br_t rfl ⟨rfl, R0⟩)
  · have hv := vp_in_nI (n := p) (N := 5) hp (by omega)
    refine xp_pk1 hp (br_f (by decide) (br_c (fun z => ?_) (fun z => ⟨hv, ?_⟩)))
    · unfold wpY_locked
      exact yp_pk1 hp (br_f (by decide) (br_t z ⟨rfl, R0⟩))
    · unfold wpY_locked
      exact yp_pk1 hp (br_f (by decide) (br_f z ⟨hv, rfl, R0⟩))
theorem i_vc_reuse {k : Nat} {u : SX} {v : SY} (I : i_Rel k u v) (hk : k + 5 ≤ 2560) : wpX_reuse (fun r u' => wpY_reuse (fun r' v' => r' = r ∧ i_Rel (k + 5) u' v') v) u := by
  obtain ⟨fw, fp, fl, fk, fc, fg, yN, yO, aV, aO, aP, aD, aN, aT, aR, aH, aW, aG, aL, aK, aU, aE, tA, tM, tB, tO, tS, yA, yM, yC, yR, rfl, rfl, ⟨w, kn, c, g, ew, hw, ek, ec, eg, hgk, en, hG, hI, hI2, h4, hV, h9, hK⟩⟩ := I
  obtain ⟨j, hj, hN, hF⟩ := gr_nxe (fun i => pd_Q w aP aD aN aT aR aH aW aG (pd_ci aO i)) (pd_T aO)
  have both : (∀ (post : Int32 → SY → Prop), (∀ c, wY_reuse_14 post fw fp fl fk yN fg yO aO aP aD aN aT aR aH aW aG yA yM c aL aK aU aE yR) → wpY_reuse post (fw, fp, fl, fk, yN, fg, yO, aO, aP, aD, aN, aT, aR, aH, aW, aG, yA, yM, yC, aL, aK, aU, aE, yR)) → wX_reuse_48 (fun r u' => wpY_reuse (fun r' v' => r' = r ∧ i_Rel (k + 5) u' v') (fw, fp, fl, fk, yN, fg, yO, aO, aP, aD, aN, aT, aR, aH, aW, aG, yA, yM, yC, aL, aK, aU, aE, yR)) fw fp fl fk fc fg aV aO aP aD aN aT aR aH aW aG aL aK aU aE tA tM tB tO tS := by
    intro hy
    unfold wX_reuse_48
    refine xp_solve ew hw hI h4 hV hj hN hF (fun z t => ?_) (fun z t => ?_)
    · refine hy _ (fun c => ?_)
      unfold wY_reuse_14
      exact yp_solve ew hw hI h4 hj hN hF (fun _ a m c => ⟨rfl, pd_mk ew hw ek ec eg (by omega) en hG hI hI2 h4 hV h9 hK⟩) (fun z2 => absurd z2 (by omega))
    · refine hy _ (fun c => ?_)
      unfold wY_reuse_14
      exact yp_solve ew hw hI h4 hj hN hF (fun z2 => absurd z (by omega)) (fun _ a m c => ⟨rfl, pd_mk ew hw ek ec eg (by omega) en hG hI hI2 h4 hV (pd_9cp (pd_ci9 aO j)) hK⟩)
  by_cases hl : fl = 0
  · exact br_t hl (both (fun post h => br_t hl (h yC)))
  by_cases hB : pd_Ix aO aK ∧ pd_Q w aP aD aN aT aR aH aW aG aK
  · refine br_f hl (xp_ii hK (fun _ => br_f (by decide) (xp_sol_lockedIn ew hw hI hK (fun _ => br_f (by decide) (xp_cp_lockedIn_planned ?_)) (fun q => absurd hB.2 q))) (fun q => absurd hB.1 q))
    refine br_f hl (yp_lh ew hw hI hK (fun _ c => br_f (by decide) (yp_ru ⟨rfl, ?_⟩)) (fun q => absurd hB q))
    exact pd_mk ew hw ek ec eg (by omega) en hG hI hI2 h4 hV (pd_9cp hK) hK
  · have b := both (fun post h => br_f hl (yp_lh ew hw hI hK (fun q => absurd q hB) (fun _ c => br_t rfl (h c))))
    refine br_f hl (xp_ii hK (fun a => br_f (by decide) (xp_sol_lockedIn ew hw hI hK (fun q => absurd ⟨a, q⟩ hB) (fun _ => br_t rfl b))) (fun _ => br_t rfl b))
end
section
/-! steps, step, apply, current, version, rollback, collect -/
section
variable {fw fp fl fk fc fg yN yO : Int32} {aV aO aP aD aN aT aR aH aW aG aL aK aU aE tA tM tB tO tS yA yM yC yR : Nat → Int32}
theorem pd_SL10 {cu : Nat → Int32} : (pd_SL cu aL (gr_st (pd_R aO aD aN aT aL) (pd_U aL) 5).2).length ≤ 10 := by
  have hV := pd_RU (aO := aO) (aD := aD) (aN := aN) (aT := aT) (aL := aL)
  have a := gr_len hV 5
  have b := pd_rml cu aL 5
  have c := pd_pll cu aL (gr_st (pd_R aO aD aN aT aL) (pd_U aL) 5).2 (gr_st (pd_R aO aD aN aT aL) (pd_U aL) 5).2.length
  unfold pd_SL
  rw [List.length_append]
  omega
theorem xy_ap {kn c g : Nat} (ek : fk = nI kn) (ec : fc = nI c) (eg : fg = nI g) (hg : g < 2 ^ 31) (en : yN = aU c) (hG : pd_GI kn c g aU aE) : ∃ (kn' c' : Nat) (U E : Nat → Int32), kn' ≤ 5 ∧ pd_GI kn' c' g U E ∧
    (∀ (post : Int32 → SX → Prop) (tB tO tS : Nat → Int32), post (nI (g + 1)) (fw, fp, fl, nI (kn' + 1), nI kn', nI (g + 1), aV, aO, aP, aD, aN, aT, aR, aH, aW, aG, aL, aK, upd U kn' (nI (g + 1)), pd_kp E (5 * kn') aL 5, tA, tM, tB, tO, tS) → wX_apply_41 post fw fp fl fk fc fg aV aO aP aD aN aT aR aH aW aG aL aK aU aE tA tM tB tO tS) ∧
    (∀ (post : Int32 → SY → Prop), post (nI (g + 1)) (fw, fp, fl, nI (kn' + 1), nI (g + 1), nI (g + 1), yO, aO, aP, aD, aN, aT, aR, aH, aW, aG, yA, yM, yC, aL, aK, upd U kn' (nI (g + 1)), pd_kp E (5 * kn') aL 5, yR) → wY_apply_36 post fw fp fl fk yN fg yO aO aP aD aN aT aR aH aW aG yA yM yC aL aK aU aE yR) := by
  have h6 := hG.2.1
  have hc := hG.2.2.1
  by_cases z : kn = 6
  · subst z
    have hX : ¬ fk < 6 := by rw [ek]; decide
    have hY : fk = 6 := by rw [ek]; rfl
    by_cases y : c = 0
    · subst y
      refine ⟨5, _, _, _, by omega, pd_GIdr hG (d := 1) (by omega) (by omega), ?_, ?_⟩
      · intro post tB tO tS hp
        refine br_f hX (br_t (by rw [ec]; rfl) ?_)
        unfold wX_apply_63
        refine xp_dr (d := 1) ek (by omega) ec hc (by omega) ?_
        unfold wX_apply_66
        exact xp_kp rfl (by omega) eg hp
      · intro post hp
        refine br_t hY (br_t en.symm ?_)
        unfold wY_apply_64
        refine yp_dr (d := 1) ek (by omega) (by omega) ?_
        exact yp_kp rfl (by omega) eg hp
    · refine ⟨5, _, _, _, by omega, pd_GIdr hG (d := 0) (by omega) (fun q => y q.symm), ?_, ?_⟩
      · intro post tB tO tS hp
        refine br_f hX (br_f (by rw [ec]; exact nI_ne0 (by omega) (by omega)) ?_)
        unfold wX_apply_63
        refine xp_dr (d := 0) ek (by omega) ec hc (by omega) ?_
        unfold wX_apply_66
        exact xp_kp rfl (by omega) eg hp
      · intro post hp
        refine br_t hY (br_f (fun q => y (pd_GIu hG hg (i := 0) (by omega) hc (q.trans en)).symm) ?_)
        unfold wY_apply_64
        refine yp_dr (d := 0) ek (by omega) (by omega) ?_
        exact yp_kp rfl (by omega) eg hp
  · refine ⟨kn, c, aU, aE, by omega, hG, ?_, ?_⟩
    · intro post tB tO tS hp
      refine br_t (by rw [ek]; exact nI_lt (b := 6) (by omega) (by decide)) ?_
      unfold wX_apply_66
      exact xp_kp ek (by omega) eg hp
    · intro post hp
      refine br_f (by rw [ek]; exact fun q => z ((nI_eq (b := 6) (by omega) (by omega)).mp q)) ?_
      exact yp_kp ek (by omega) eg hp
def pd_df (a b : Nat → Int32) : Nat → Nat
  | 0 => 0
  | p + 1 => if a p = b p then pd_df a b p else pd_df a b p + 1
theorem xp_rb {post : Int32 → SX → Prop} {c i : Nat} (ec : fc = nI c) (hc : c < 6) (hi : i < 6) (h : post (nI (pd_df (pd_cu aE i) (pd_cu aE c) 5)) (fw, fp, fl, fk, nI i, fg, aV, aO, aP, aD, aN, aT, aR, aH, aW, aG, aL, aK, aU, aE, tA, tM, tB, tO, tS)) : ∃ n18 : Nat, wX_rollback_18 post (nI i) fw fp fl fk fc fg aV aO aP aD aN aT aR aH aW aG aL aK aU aE tA tM tB tO tS n18 0 0 := by
  have key : ∀ g q, q + g = 5 → wX_rollback_18 post (nI i) fw fp fl fk fc fg aV aO aP aD aN aT aR aH aW aG aL aK aU aE tA tM tB tO tS (g + 1) (nI (pd_df (pd_cu aE i) (pd_cu aE c) q)) (nI q) := by
    intro g
    induction g with
    | zero =>
      intro q hq
      have e : q = 5 := by omega
      subst e
      exact br_t (by decide) h
    | succ g ih =>
      intro q hq
      have hq5 : q < 5 := by omega
      have i2 := ih (q + 1) (by omega)
      rw [pd_df] at i2
      refine br_f (lt5' q hq5) ?_
      rw [pd_l5, nI_clamp (n := 5 * i + q) (by omega)]
      refine ⟨vp_in_nI (by omega) (by omega), xp_cv ec hc hq5 (br_c (fun z => nm_r (nI_1 q) ?_) (fun z => nm_r (nI_1 _) (nm_r (nI_1 q) ?_)))⟩
      · rw [if_pos (show pd_cu aE i q = pd_cu aE c q from z)] at i2
        exact i2
      · rw [if_neg (show ¬ pd_cu aE i q = pd_cu aE c q from z)] at i2
        exact i2
  exact ⟨6, key 5 0 rfl⟩
theorem yp_rb {post : Int32 → SY → Prop} {x : Int32} {kn c g i : Nat} (ek : fk = nI kn) (hG : pd_GI kn c g aU aE) (hg : g < 2 ^ 31) (en : yN = aU c) (hi : i < 6) (h : post (nI (pd_df (pd_cu aE i) (pd_cu aE c) 5)) (fw, fp, fl, fk, x, fg, yO, aO, aP, aD, aN, aT, aR, aH, aW, aG, yA, yM, yC, aL, aK, aU, aE, yR)) : ∃ n18 : Nat, wY_rollback_18 post x (nI i) fw fp fl fk yN fg yO aO aP aD aN aT aR aH aW aG yA yM yC aL aK aU aE yR n18 0 0 := by
  have key : ∀ g' q, q + g' = 5 → wY_rollback_18 post x (nI i) fw fp fl fk yN fg yO aO aP aD aN aT aR aH aW aG yA yM yC aL aK aU aE yR (g' + 1) (nI (pd_df (pd_cu aE i) (pd_cu aE c) q)) (nI q) := by
    intro g'
    induction g' with
    | zero =>
      intro q hq
      have e : q = 5 := by omega
      subst e
      exact br_t (by decide) h
    | succ g' ih =>
      intro q hq
      have hq5 : q < 5 := by omega
      have i2 := ih (q + 1) (by omega)
      rw [pd_df] at i2
      refine br_f (lt5' q hq5) ?_
      rw [pd_l5, nI_clamp (n := 5 * i + q) (by omega)]
      refine ⟨vp_in_nI (by omega) (by omega), yp_gv ek hG hg en hq5 (br_c (fun z => nm_r (nI_1 q) ?_) (fun z => nm_r (nI_1 _) (nm_r (nI_1 q) ?_)))⟩
      · rw [if_pos (show pd_cu aE i q = pd_cu aE c q from z)] at i2
        exact i2
      · rw [if_neg (show ¬ pd_cu aE i q = pd_cu aE c q from z)] at i2
        exact i2
  exact ⟨6, key 5 0 rfl⟩
theorem pd_GIc {kn c i g : Nat} (hG : pd_GI kn c g aU aE) (hi : i < kn) : pd_GI kn i g aU aE := ⟨hG.1, hG.2.1, hi, hG.2.2.2⟩
theorem xy_cl {n0 g : Nat} (hg : g < 2 ^ 31) : ∀ s kn c (U E : Nat → Int32) x3, s + 1 ≤ kn → kn ≤ n0 → pd_GI kn c g U E → yN = U c → (s = 0 → x3 < 0) → (∀ t, s = t + 1 → x3 = nI t) → ∃ (kn' c' : Nat) (U' E' : Nat → Int32), kn' ≤ n0 ∧ pd_GI kn' c' g U' E' ∧ yN = U' c' ∧
    (∀ (post : Int32 → SX → Prop), post (nI n0 - nI kn') (fw, fp, fl, nI kn', nI c', fg, aV, aO, aP, aD, aN, aT, aR, aH, aW, aG, aL, aK, U', E', tA, tM, tB, tO, tS) → wX_collect_24 post (nI n0) (s + 1) x3 fw fp fl (nI kn) (nI c) fg aV aO aP aD aN aT aR aH aW aG aL aK U E tA tM tB tO tS) ∧
    (∀ (post : Int32 → SY → Prop), post (nI (n0 - kn')) (fw, fp, fl, nI kn', yN, fg, yO, aO, aP, aD, aN, aT, aR, aH, aW, aG, yA, yM, yC, aL, aK, U', E', yR) → wY_collect_24 post (s + 1) (nI (n0 - kn)) x3 fw fp fl (nI kn) yN fg yO aO aP aD aN aT aR aH aW aG yA yM yC aL aK U E yR) := by
  intro s
  induction s with
  | zero =>
    intro kn c U E x3 hs hn hG en e _
    exact ⟨kn, c, U, E, hn, hG, en, fun post hp => br_t (e rfl) hp, fun post hp => br_t (e rfl) hp⟩
  | succ s ih =>
    intro kn c U E x3 hs hn hG en _ e
    have h6 := hG.2.1
    have hc := hG.2.2.1
    have ex := e s rfl
    subst ex
    have hsp : ¬ nI s < 0 := nI_pos (by omega)
    have z0 : s = 0 → nI s + (-1) < 0 := by intro z; subst z; decide
    have z1 : ∀ t, s = t + 1 → nI s + (-1) = nI t := by intro t z; subst z; exact pk_m1 t
    by_cases z : s = c
    · subst z
      obtain ⟨kn', c', U', E', a1, a2, a3, a4, a5⟩ := ih kn s U E (nI s + (-1)) (by omega) hn hG en z0 z1
      refine ⟨kn', c', U', E', a1, a2, a3, fun post hp => br_f hsp (br_t rfl (nm_e (a4 post hp))), fun post hp => br_f hsp ⟨vp_in_nI (by omega) (by omega), ?_⟩⟩
      rw [nI_clamp (n := s) (by omega)]
      exact br_t en.symm (nm_e (a5 post hp))
    · obtain ⟨kn', c', U', E', a1, a2, a3, a4, a5⟩ := ih (kn - 1) (if c ≤ s then c else c - 1) (pd_sv U s (kn - 1) 1) (pd_sv E (5 * s) (5 * (kn - 1)) 5) (nI s + (-1)) (by omega) (by omega) (pd_GIdr hG (by omega) z) (by rw [pd_Udr hc (by omega) z]; exact en) z0 z1
      refine ⟨kn', c', U', E', a1, a2, a3, fun post hp => br_f hsp (br_f (fun q => z ((nI_eq (by omega) (by omega)).mp q)) ?_), fun post hp => br_f hsp ⟨vp_in_nI (by omega) (by omega), ?_⟩⟩
      · exact xp_dr rfl h6 rfl hc (by omega) (nm_e (a4 post hp))
      · rw [nI_clamp (n := s) (by omega)]
        refine br_f (fun q => z (pd_GIu hG hg (by omega) hc (q.trans en))) (yp_dr rfl h6 (by omega) (nm_r (e' := nI (n0 - (kn - 1))) ?_ (nm_e (a5 post hp))))
        rw [nI_1, show n0 - kn + 1 = n0 - (kn - 1) by omega]
end
theorem i_vc_steps {k : Nat} {u : SX} {v : SY} (I : i_Rel k u v) (hk : k + 5 ≤ 2560) : wpX_steps (fun r u' => wpY_steps (fun r' => r' = r ∧ i_Rel (k + 5) u' v) v) u := by
  obtain ⟨fw, fp, fl, fk, fc, fg, yN, yO, aV, aO, aP, aD, aN, aT, aR, aH, aW, aG, aL, aK, aU, aE, tA, tM, tB, tO, tS, yA, yM, yC, yR, rfl, rfl, ⟨w, kn, c, g, ew, hw, ek, ec, eg, hgk, en, hG, hI, hI2, h4, hV, h9, hK⟩⟩ := I
  have R0 : i_Rel (k + 5) (fw, fp, fl, fk, fc, fg, aV, aO, aP, aD, aN, aT, aR, aH, aW, aG, aL, aK, aU, aE, tA, tM, tB, tO, tS) (fw, fp, fl, fk, yN, fg, yO, aO, aP, aD, aN, aT, aR, aH, aW, aG, yA, yM, yC, aL, aK, aU, aE, yR) := pd_mk ew hw ek ec eg (by omega) en hG hI hI2 h4 hV h9 hK
  have hc6 : c < 6 := by have := hG.2.1; have := hG.2.2.1; omega
  refine br_c (fun z => br_t z ⟨rfl, R0⟩) (fun z => xp_ls ec hc6 hI hI2 h9 (fun b o s hs => ?_))
  refine yp_stp z ek hG (by omega) en h9 ⟨?_, pd_mk ew hw ek ec eg (by omega) en hG hI hI2 h4 hV h9 hK⟩
  rw [pd_SLl]
theorem i_vc_step {k : Nat} {u : SX} {v : SY} (I : i_Rel k u v) (hk : k + 5 ≤ 2560) (v1 : Int32) : wpX_step (fun r u' => wpY_step (fun r' v' => r' = r ∧ i_Rel (k + 5) u' v') v v1) u v1 := by
  obtain ⟨fw, fp, fl, fk, fc, fg, yN, yO, aV, aO, aP, aD, aN, aT, aR, aH, aW, aG, aL, aK, aU, aE, tA, tM, tB, tO, tS, yA, yM, yC, yR, rfl, rfl, ⟨w, kn, c, g, ew, hw, ek, ec, eg, hgk, en, hG, hI, hI2, h4, hV, h9, hK⟩⟩ := I
  have R0 : i_Rel (k + 5) (fw, fp, fl, fk, fc, fg, aV, aO, aP, aD, aN, aT, aR, aH, aW, aG, aL, aK, aU, aE, tA, tM, tB, tO, tS) (fw, fp, fl, fk, yN, fg, yO, aO, aP, aD, aN, aT, aR, aH, aW, aG, yA, yM, yC, aL, aK, aU, aE, yR) := pd_mk ew hw ek ec eg (by omega) en hG hI hI2 h4 hV h9 hK
  have hc6 : c < 6 := by have := hG.2.1; have := hG.2.2.1; omega
  refine br_c (fun z => br_t z ⟨rfl, R0⟩) (fun z => xp_ls ec hc6 hI hI2 h9 (fun b o s hs => ?_))
  have R1 : ∀ o' a', i_Rel (k + 5) (fw, fp, fl, fk, fc, fg, aV, aO, aP, aD, aN, aT, aR, aH, aW, aG, aL, aK, aU, aE, tA, tM, b, o, s) (fw, fp, fl, fk, yN, fg, o', aO, aP, aD, aN, aT, aR, aH, aW, aG, yA, yM, yC, aL, aK, aU, aE, a') := fun o' a' => pd_mk ew hw ek ec eg (by omega) en hG hI hI2 h4 hV h9 hK
  by_cases h0 : v1 < 0
  · exact br_t h0 (br_f z (br_t h0 ⟨rfl, R1 yO yR⟩))
  · obtain ⟨j, hj, rfl⟩ := nI_of h0
    have h10 := pd_SL10 (aO := aO) (aD := aD) (aN := aN) (aT := aT) (aL := aL) (cu := pd_cu aE c)
    refine br_f h0 (pk_le (pd_SL (pd_cu aE c) aL (gr_st (pd_R aO aD aN aT aL) (pd_U aL) 5).2).length j (fun hle => ?_) (fun hlt => ⟨vp_in_nI (by omega) (by omega), ?_⟩) rfl rfl (by omega) hj)
    · refine br_f z (br_f h0 (yp_sa hj ek hG (by omega) en hI h9 (fun o' a' => ⟨?_, R1 o' a'⟩)))
      rw [pd_gout hle]
    · refine br_f z (br_f h0 (yp_sa hj ek hG (by omega) en hI h9 (fun o' a' => ⟨?_, R1 o' a'⟩)))
      rw [nI_clamp hj, hs j hlt]
theorem i_vc_apply {k : Nat} {u : SX} {v : SY} (I : i_Rel k u v) (hk : k + 5 ≤ 2560) (v1 : Int32) : wpX_apply (fun r u' => wpY_apply (fun r' v' => r' = r ∧ i_Rel (k + 5) u' v') v v1) u v1 := by
  obtain ⟨fw, fp, fl, fk, fc, fg, yN, yO, aV, aO, aP, aD, aN, aT, aR, aH, aW, aG, aL, aK, aU, aE, tA, tM, tB, tO, tS, yA, yM, yC, yR, rfl, rfl, ⟨w, kn, c, g, ew, hw, ek, ec, eg, hgk, en, hG, hI, hI2, h4, hV, h9, hK⟩⟩ := I
  have R0 : i_Rel (k + 5) (fw, fp, fl, fk, fc, fg, aV, aO, aP, aD, aN, aT, aR, aH, aW, aG, aL, aK, aU, aE, tA, tM, tB, tO, tS) (fw, fp, fl, fk, yN, fg, yO, aO, aP, aD, aN, aT, aR, aH, aW, aG, yA, yM, yC, aL, aK, aU, aE, yR) := pd_mk ew hw ek ec eg (by omega) en hG hI hI2 h4 hV h9 hK
  have hc6 : c < 6 := by have := hG.2.1; have := hG.2.2.1; omega
  obtain ⟨kn', c', U, E, k5, hG', aX, aY⟩ := xy_ap (fw := fw) (fp := fp) (fl := fl) (yO := yO) (aV := aV) (aO := aO) (aP := aP) (aD := aD) (aN := aN) (aT := aT) (aR := aR) (aH := aH) (aW := aW) (aG := aG) (aL := aL) (aK := aK) (tA := tA) (tM := tM) (yA := yA) (yM := yM) (yC := yC) (yR := yR) ek ec eg (by omega) en hG
  have h10 := pd_SL10 (aO := aO) (aD := aD) (aN := aN) (aT := aT) (aL := aL) (cu := pd_cu aE c)
  have hl := pd_SLl (aO := aO) (aD := aD) (aN := aN) (aT := aT) (aL := aL) (pd_cu aE c)
  rw [hl] at h10
  refine br_c (fun z => br_t z ⟨rfl, R0⟩) (fun z => xp_ls ec hc6 hI hI2 h9 (fun b o s hs => ?_))
  rw [hl]
  have R1 : i_Rel (k + 5) (fw, fp, fl, fk, fc, fg, aV, aO, aP, aD, aN, aT, aR, aH, aW, aG, aL, aK, aU, aE, tA, tM, b, o, s) (fw, fp, fl, fk, yN, fg, yO, aO, aP, aD, aN, aT, aR, aH, aW, aG, yA, yM, yC, aL, aK, aU, aE, yR) := pd_mk ew hw ek ec eg (by omega) en hG hI hI2 h4 hV h9 hK
  have R2 : i_Rel (k + 5) (fw, fp, fl, nI (kn' + 1), nI kn', nI (g + 1), aV, aO, aP, aD, aN, aT, aR, aH, aW, aG, aL, aK, upd U kn' (nI (g + 1)), pd_kp E (5 * kn') aL 5, tA, tM, b, o, s) (fw, fp, fl, nI (kn' + 1), nI (g + 1), nI (g + 1), yO, aO, aP, aD, aN, aT, aR, aH, aW, aG, yA, yM, yC, aL, aK, upd U kn' (nI (g + 1)), pd_kp E (5 * kn') aL 5, yR) := pd_mk ew hw rfl rfl rfl (by omega) pk_us.symm (pd_GIkp hG' k5 h9) hI hI2 h4 hV h9 hK
  refine pk_eq (pd_ns (pd_cu aE c) aL 5) 0 (fun e0 => ?_) (fun e0 => ?_) rfl rfl (by omega) (by omega)
  · rw [ec, nI_clamp (n := c) (by omega)]
    rw [ec] at R1
    exact ⟨vp_in_nI hc6 (by omega), br_f z (yp_stp z ek hG (by omega) en h9 (br_t (by rw [e0]; rfl) ⟨en, R1⟩))⟩
  · have e0' : ¬ nI (pd_ns (pd_cu aE c) aL 5) = 0 := nI_ne0 (by omega) (by omega)
    by_cases h0 : v1 < 0
    · exact br_t h0 (aX _ b o s (br_f z (yp_stp z ek hG (by omega) en h9 (br_f e0' (br_t h0 (aY _ ⟨rfl, R2⟩))))))
    · by_cases h1 : nI (pd_ns (pd_cu aE c) aL 5) ≤ v1
      · exact br_f h0 (br_t h1 (aX _ b o s (br_f z (yp_stp z ek hG (by omega) en h9 (br_f e0' (br_f h0 (br_t h1 (aY _ ⟨rfl, R2⟩))))))))
      · exact br_f h0 (br_f h1 (br_f z (yp_stp z ek hG (by omega) en h9 (br_f e0' (br_f h0 (br_f h1 ⟨rfl, R1⟩))))))
theorem i_vc_current {k : Nat} {u : SX} {v : SY} (I : i_Rel k u v) (hk : k + 5 ≤ 2560) : wpX_current (fun r => wpY_current (fun r' => r' = r ∧ i_Rel (k + 5) u v) v) u := by
  obtain ⟨fw, fp, fl, fk, fc, fg, yN, yO, aV, aO, aP, aD, aN, aT, aR, aH, aW, aG, aL, aK, aU, aE, tA, tM, tB, tO, tS, yA, yM, yC, yR, rfl, rfl, ⟨w, kn, c, g, ew, hw, ek, ec, eg, hgk, en, hG, hI, hI2, h4, hV, h9, hK⟩⟩ := I
  have R0 : i_Rel (k + 5) (fw, fp, fl, fk, fc, fg, aV, aO, aP, aD, aN, aT, aR, aH, aW, aG, aL, aK, aU, aE, tA, tM, tB, tO, tS) (fw, fp, fl, fk, yN, fg, yO, aO, aP, aD, aN, aT, aR, aH, aW, aG, yA, yM, yC, aL, aK, aU, aE, yR) := pd_mk ew hw ek ec eg (by omega) en hG hI hI2 h4 hV h9 hK
  have hc6 : c < 6 := by have := hG.2.1; have := hG.2.2.1; omega
  subst ec
  refine ⟨vp_in_nI hc6 (by omega), ?_⟩
  rw [nI_clamp (n := c) (by omega)]
  exact ⟨en, R0⟩
theorem i_vc_version {k : Nat} {u : SX} {v : SY} (I : i_Rel k u v) (hk : k + 5 ≤ 2560) (v1 : Int32) (v2 : Int32) : wpX_version (fun r => wpY_version (fun r' => r' = r ∧ i_Rel (k + 5) u v) v v1 v2) u v1 v2 := by
  obtain ⟨fw, fp, fl, fk, fc, fg, yN, yO, aV, aO, aP, aD, aN, aT, aR, aH, aW, aG, aL, aK, aU, aE, tA, tM, tB, tO, tS, yA, yM, yC, yR, rfl, rfl, ⟨w, kn, c, g, ew, hw, ek, ec, eg, hgk, en, hG, hI, hI2, h4, hV, h9, hK⟩⟩ := I
  have R0 : i_Rel (k + 5) (fw, fp, fl, fk, fc, fg, aV, aO, aP, aD, aN, aT, aR, aH, aW, aG, aL, aK, aU, aE, tA, tM, tB, tO, tS) (fw, fp, fl, fk, yN, fg, yO, aO, aP, aD, aN, aT, aR, aH, aW, aG, yA, yM, yC, aL, aK, aU, aE, yR) := pd_mk ew hw ek ec eg (by omega) en hG hI hI2 h4 hV h9 hK
  have h6 := hG.2.1
  unfold wpX_version
  rcases pd_pk v2 with hp | ⟨p, hp, rfl⟩
  · refine xp_pk0 hp (br_t rfl ?_)
    unfold wpY_version
    exact yp_pk0 hp (br_t rfl ⟨rfl, R0⟩)
  · refine xp_pk1 hp (br_f (by decide) (xp_slot ek h6 (fun i hi e hf => ?_) (fun hn => ?_)))
    · refine br_f (nI_pos (by omega)) ?_
      rw [pd_l5, nI_clamp (n := 5 * i + p) (by omega)]
      refine ⟨vp_in_nI (by omega) (by omega), ?_⟩
      unfold wpY_version
      refine yp_pk1 hp (br_f (by decide) (yp_place ek h6 (fun i' hi' e' _ => ?_) (fun hn => absurd e (hn i hi))))
      have : i' = i := pd_GIu hG (by omega) hi' hi (e'.trans e.symm)
      subst this
      refine br_t (nI_pos' (by omega)) ?_
      rw [pd_l5, nI_clamp (n := 5 * i' + p) (by omega)]
      exact ⟨vp_in_nI (by omega) (by omega), rfl, R0⟩
    · refine br_t (by decide) ?_
      unfold wpY_version
      exact yp_pk1 hp (br_f (by decide) (yp_place ek h6 (fun i' hi' e' _ => absurd e' (hn i' hi')) (fun _ => br_f (by decide) ⟨rfl, R0⟩)))
theorem i_vc_rollback {k : Nat} {u : SX} {v : SY} (I : i_Rel k u v) (hk : k + 5 ≤ 2560) (v1 : Int32) : wpX_rollback (fun r u' => wpY_rollback (fun r' v' => r' = r ∧ i_Rel (k + 5) u' v') v v1) u v1 := by
  obtain ⟨fw, fp, fl, fk, fc, fg, yN, yO, aV, aO, aP, aD, aN, aT, aR, aH, aW, aG, aL, aK, aU, aE, tA, tM, tB, tO, tS, yA, yM, yC, yR, rfl, rfl, ⟨w, kn, c, g, ew, hw, ek, ec, eg, hgk, en, hG, hI, hI2, h4, hV, h9, hK⟩⟩ := I
  have R0 : i_Rel (k + 5) (fw, fp, fl, fk, fc, fg, aV, aO, aP, aD, aN, aT, aR, aH, aW, aG, aL, aK, aU, aE, tA, tM, tB, tO, tS) (fw, fp, fl, fk, yN, fg, yO, aO, aP, aD, aN, aT, aR, aH, aW, aG, yA, yM, yC, aL, aK, aU, aE, yR) := pd_mk ew hw ek ec eg (by omega) en hG hI hI2 h4 hV h9 hK
  have h6 := hG.2.1
  have hck := hG.2.2.1
  unfold wpX_rollback
  refine xp_slot ek h6 (fun i hi e hf => ?_) (fun hn => ?_)
  · refine br_t (nI_pos' (by omega)) (xp_rb ec (by omega) (by omega) ?_)
    unfold wpY_rollback
    refine yp_place ek h6 (fun i' hi' e' _ => ?_) (fun hn => absurd e (hn i hi))
    have : i' = i := pd_GIu hG (by omega) hi' hi (e'.trans e.symm)
    subst this
    refine br_t (nI_pos' (by omega)) (yp_rb ek hG (by omega) en (by omega) ⟨rfl, ?_⟩)
    exact pd_mk ew hw ek rfl eg (by omega) e.symm (pd_GIc hG hi) hI hI2 h4 hV h9 hK
  · refine br_f (by decide) ?_
    unfold wpY_rollback
    exact yp_place ek h6 (fun i' hi' e' _ => absurd e' (hn i' hi')) (fun _ => br_f (by decide) ⟨rfl, R0⟩)
theorem pd_s2 (a b : Int32) : (a - b) - 1 = a - (b + 1) := by grind
theorem pd_s3 (a b : Int32) : (a - 1) - b = a - (b + 1) := by grind
theorem i_vc_collect {k : Nat} {u : SX} {v : SY} (I : i_Rel k u v) (hk : k + 5 ≤ 2560) (v1 : Int32) : wpX_collect (fun r u' => wpY_collect (fun r' v' => r' = r ∧ i_Rel (k + 5) u' v') v v1) u v1 := by
  obtain ⟨fw, fp, fl, fk, fc, fg, yN, yO, aV, aO, aP, aD, aN, aT, aR, aH, aW, aG, aL, aK, aU, aE, tA, tM, tB, tO, tS, yA, yM, yC, yR, rfl, rfl, ⟨w, kn, c, g, ew, hw, ek, ec, eg, hgk, en, hG, hI, hI2, h4, hV, h9, hK⟩⟩ := I
  have R0 : i_Rel (k + 5) (fw, fp, fl, fk, fc, fg, aV, aO, aP, aD, aN, aT, aR, aH, aW, aG, aL, aK, aU, aE, tA, tM, tB, tO, tS) (fw, fp, fl, fk, yN, fg, yO, aO, aP, aD, aN, aT, aR, aH, aW, aG, yA, yM, yC, aL, aK, aU, aE, yR) := pd_mk ew hw ek ec eg (by omega) en hG hI hI2 h4 hV h9 hK
  have h6 := hG.2.1
  have h1 := hG.1
  by_cases c1 : v1 < 1
  · exact br_t c1 (br_t c1 ⟨rfl, R0⟩)
  by_cases c6 : v1 ≤ 6
  case neg => exact br_f c1 (br_f c6 (br_f c1 (br_f c6 ⟨rfl, R0⟩)))
  have h0 : ¬ v1 < 0 := fun q => c1 (Int32.lt_trans q (by decide))
  obtain ⟨m, hm, rfl⟩ := nI_of2 (n := 6) (by decide) h0 c6
  have hm1 : 1 ≤ m := by
    have : ¬ m < 1 := fun q => c1 (nI_lt (b := 1) q (by decide))
    omega
  have eX : fk - nI m - 1 = nI kn - nI (m + 1) := by rw [ek, pd_s2, nI_1]
  have eY : fk - 1 - nI m = nI kn - nI (m + 1) := by rw [ek, pd_s3, nI_1]
  obtain ⟨kn', c', U', E', a1, a2, a3, a4, a5⟩ := xy_cl (yN := yN) (yO := yO) (n0 := kn) (fw := fw) (fp := fp) (fl := fl) (fg := fg) (aV := aV) (aO := aO) (aP := aP) (aD := aD) (aN := aN) (aT := aT) (aR := aR) (aH := aH) (aW := aW) (aG := aG) (aL := aL) (aK := aK) (tA := tA) (tM := tM) (tB := tB) (tO := tO) (tS := tS) (yA := yA) (yM := yM) (yC := yC) (yR := yR) (g := g) (by omega) (kn - m) kn c aU aE (nI kn - nI (m + 1)) (by omega) (Nat.le_refl _) hG en (fun z => pk_sneg (by omega) (by omega)) (fun t z => by rw [pk_sub (by omega), show kn - (m + 1) = t by omega])
  rw [Nat.sub_self] at a5
  have R1 : i_Rel (k + 5) (fw, fp, fl, nI kn', nI c', fg, aV, aO, aP, aD, aN, aT, aR, aH, aW, aG, aL, aK, U', E', tA, tM, tB, tO, tS) (fw, fp, fl, nI kn', yN, fg, yO, aO, aP, aD, aN, aT, aR, aH, aW, aG, yA, yM, yC, aL, aK, U', E', yR) := pd_mk ew hw rfl rfl eg (by omega) a3 a2 hI hI2 h4 hV h9 hK
  subst ek ec
  exact br_f c1 (br_t c6 (nm_r eX ⟨_, a4 _ (br_f c1 (br_t c6 (nm_r eY ⟨_, a5 _ ⟨(pk_sub a1).symm, R1⟩⟩)))⟩))
end
