/-! Y's list and take; counting the choices; copies and sizes -/
variable {fw fp fl fk fc fg yN yO : Int32} {aV aO aP aD aN aT aR aH aW aG aL aK aU aE tA tM tB tO tS yA yM yC yR : Nat → Int32}
/-- what list leaves behind -/
def pd_Op (aO yA yM : Nat → Int32) : Prop := (∀ p, p < 5 → yM p = nI (pd_M aO p)) ∧ (∀ p d, p < 5 → d < pd_M aO p → yA (5 * p + d) = nI (pd_o aO p d))
def pd_4 (aO : Nat → Int32) : Prop := ∀ p, p < 5 → (pd_L aO p).length ≤ 4
theorem pd_M5 {aO : Nat → Int32} (h4 : pd_4 aO) {p : Nat} (hp : p < 5) : pd_M aO p ≤ 5 := Nat.succ_le_succ (h4 p hp)
theorem pd_getD_app {A B : List Nat} {d : Nat} (h : d < A.length) : (A ++ B).getD d 0 = A.getD d 0 := by
  rw [List.getD_eq_getElem?_getD, List.getD_eq_getElem?_getD, List.getElem?_append_left h]
theorem pd_getD_mid {A B : List Nat} {x : Nat} : (A ++ x :: B).getD A.length 0 = x := by
  rw [List.getD_eq_getElem?_getD, List.getElem?_append_right (Nat.le_refl _), Nat.sub_self]
  rfl
theorem yp_listI {post : SY → Prop} {J : Int32 → (Nat → Int32) → (Nat → Int32) → (Nat → Int32) → (Nat → Int32) → (Nat → Int32) → (Nat → Int32) → (Nat → Int32) → (Nat → Int32) → (Nat → Int32) → (Nat → Int32) → (Nat → Int32) → (Nat → Int32) → (Nat → Int32) → (Nat → Int32) → (Nat → Int32) → (Nat → Int32) → (Nat → Int32) → Prop} {q : Nat} (hq : q < 5) (h4 : pd_4 aO)
    (hJ : ∀ a m, (∀ p, p < q + 1 → m p = nI (pd_M aO p)) → (∀ p d, p < q + 1 → d < pd_M aO p → a (5 * p + d) = nI (pd_o aO p d)) → J (nI (q + 1)) aO aP aD aN aT aR aH aW aG a m yC aL aK aU aE yR) :
    ∀ s, s ≤ 9 → ∀ (A : List Nat) (a m : Nat → Int32), pd_L aO q = A ++ pd_ds (pd_h aO q) s → m q = nI (A.length + 1) →
      (∀ p, p < q → m p = nI (pd_M aO p)) → (∀ p d, p < q → d < pd_M aO p → a (5 * p + d) = nI (pd_o aO p d)) →
      a (5 * q) = 0 → (∀ d, d < A.length → a (5 * q + (d + 1)) = nI (A.getD d 0)) →
      wY_list_26 post J (nI q) fw fp fl fk yN fg yO (s + 1) (nI s) aO aP aD aN aT aR aH aW aG a m yC aL aK aU aE yR := by
  intro s
  induction s with
  | zero =>
    intro _ A a m hL hm h1 h2 h3 h5
    have eL : pd_L aO q = A := by rw [hL]; exact List.append_nil A
    refine br_t (nI_le (a := 0) (b := 0) (by omega) (by omega)) (nm_r (nI_1 q) (hJ a m ?_ ?_))
    · intro p hp
      by_cases z : p = q
      · subst z; rw [hm]; unfold pd_M; rw [eL]
      · exact h1 p (by omega)
    · intro p d hp hd
      by_cases z : p = q
      · subst z
        cases d with
        | zero => rw [Nat.add_zero, h3]; rfl
        | succ d =>
          rw [h5 d (by unfold pd_M at hd; rw [eL] at hd; omega)]
          unfold pd_o
          rw [List.getD_cons_succ, eL]
      · exact h2 p d (by omega) hd
  | succ s ih =>
    intro hs A a m hL hm h1 h2 h3 h5
    have hl : 10 * q + (s + 1) < 50 := by omega
    refine br_f (nI_nle (by omega) (by omega)) ?_
    rw [pd_l10, nI_clamp (n := 10 * q + (s + 1)) (by omega), nI_clamp (n := q) (by omega), hm, pd_l5]
    refine ⟨vp_in_nI hl (by omega), br_c (fun z => nm_r (pk_m1 s) (ih (by omega) A a m ?_ hm h1 h2 h3 h5)) (fun z => ?_)⟩
    · rw [hL, pd_dsN (pd_h0 z)]
    · have hL' : pd_L aO q = (A ++ [s + 1]) ++ pd_ds (pd_h aO q) s := by
        rw [hL, pd_dsP (pd_h1 z), List.append_assoc]; rfl
      have hlen : A.length + 1 ≤ 4 := by
        have := h4 q hq
        rw [hL', List.length_append, List.length_append] at this
        have e1 : [s + 1].length = 1 := rfl
        omega
      have hi : 5 * q + (A.length + 1) < 25 := by omega
      rw [nI_clamp (n := 5 * q + (A.length + 1)) (by omega)]
      refine ⟨vp_in_nI hq (by omega), vp_in_nI hi (by omega), nm_e ⟨vp_in_nI hq (by omega), vp_in_nI hq (by omega), nm_e (nm_r (pk_m1 s) (ih (by omega) (A ++ [s + 1]) _ _ hL' ?_ ?_ ?_ ?_ ?_))⟩⟩
      · rw [pk_us, nI_1, List.length_append]; rfl
      · intro p hp
        rw [pk_un (by omega)]
        exact h1 p hp
      · intro p d hp hd
        have := pd_M5 h4 (show p < 5 by omega)
        rw [pk_un (by omega)]
        exact h2 p d hp hd
      · rw [pk_un (by omega)]
        exact h3
      · intro d hd
        rw [List.length_append] at hd
        have e1 : [s + 1].length = 1 := rfl
        by_cases y : d = A.length
        · subst y
          rw [pk_us, pd_getD_mid]
        · rw [pk_un (by omega), pd_getD_app (by omega)]
          exact h5 d (by omega)
theorem yp_list {post : SY → Prop} (h4 : pd_4 aO) (h : ∀ a m, pd_Op aO a m → post (fw, fp, fl, fk, yN, fg, yO, aO, aP, aD, aN, aT, aR, aH, aW, aG, a, m, yC, aL, aK, aU, aE, yR)) : wpY_list post (fw, fp, fl, fk, yN, fg, yO, aO, aP, aD, aN, aT, aR, aH, aW, aG, yA, yM, yC, aL, aK, aU, aE, yR) := by
  have key : ∀ g q, q + g = 5 → ∀ a m : Nat → Int32, (∀ p, p < q → m p = nI (pd_M aO p)) → (∀ p d, p < q → d < pd_M aO p → a (5 * p + d) = nI (pd_o aO p d)) → wY_list_2 post fw fp fl fk yN fg yO (g + 1) (nI q) aO aP aD aN aT aR aH aW aG a m yC aL aK aU aE yR := by
    intro g
    induction g with
    | zero =>
      intro q hq a m h1 h2
      have e : q = 5 := by omega
      subst e
      exact br_t (by decide) (h a m ⟨h1, h2⟩)
    | succ g ih =>
      intro q hq a m h1 h2
      have hq5 : q < 5 := by omega
      have e5 : (5 : Int32) * nI q = nI (5 * q) := pk_mul 5 q
      refine br_f (lt5' q hq5) ?_
      rw [e5, nI_clamp (n := 5 * q) (by omega), nI_clamp (n := q) (by omega)]
      refine ⟨vp_in_nI (by omega) (by omega), nm_e ⟨vp_in_nI hq5 (by omega), nm_e ⟨10, ?_⟩⟩⟩
      refine yp_listI hq5 h4 (fun a' m' h1' h2' => ih (q + 1) (by omega) a' m' h1' h2') 9 (by omega) [] _ _ rfl pk_us ?_ ?_ pk_us ?_
      · intro p hp
        rw [pk_un (by omega)]
        exact h1 p hp
      · intro p d hp hd
        have := pd_M5 h4 (show p < 5 by omega)
        rw [pk_un (by omega)]
        exact h2 p d hp hd
      · intro d hd
        exact absurd hd (Nat.not_lt_zero _)
  exact ⟨6, key 5 0 rfl yA yM (fun p hp => absurd hp (Nat.not_lt_zero _)) (fun p d hp => absurd hp (Nat.not_lt_zero _))⟩
theorem pd_rkle (aO : Nat → Int32) (n : Nat) : ∀ k, pd_rk aO n k ≤ n := by
  intro k
  induction k with
  | zero => exact Nat.le_refl _
  | succ k ih => exact Nat.le_trans (Nat.div_le_self _ _) ih
theorem yp_take {post : SY → Prop} {n : Nat} (hn : n < 2 ^ 31) (h4 : pd_4 aO) (hO : pd_Op aO yA yM) (h : ∀ c, (∀ p, p < 5 → c p = pd_ci aO n p) → post (fw, fp, fl, fk, yN, fg, yO, aO, aP, aD, aN, aT, aR, aH, aW, aG, yA, yM, c, aL, aK, aU, aE, yR)) : wpY_take post (fw, fp, fl, fk, yN, fg, yO, aO, aP, aD, aN, aT, aR, aH, aW, aG, yA, yM, yC, aL, aK, aU, aE, yR) (nI n) := by
  have key : ∀ p, p < 5 → ∀ c : Nat → Int32, (∀ q, p < q → q < 5 → c q = pd_ci aO n q) → wY_take_4 post fw fp fl fk yN fg yO (p + 2) (nI (pd_rk aO n (4 - p))) (nI p) aO aP aD aN aT aR aH aW aG yA yM c aL aK aU aE yR := by
    intro p
    induction p with
    | zero =>
      intro hp c h1
      have hr := pd_rkle aO n (4 - 0)
      have hM := pd_Mpos aO 0
      have hM5 := pd_M5 h4 hp
      have hd : pd_rk aO n (4 - 0) % pd_M aO 0 < pd_M aO 0 := Nat.mod_lt _ hM
      refine br_f (nI_pos (by omega)) ⟨vp_in_nI hp (by omega), ?_⟩
      rw [nI_clamp (n := 0) (by omega), hO.1 0 hp]
      refine br_t (nI_le (a := 1) hM (by omega)) ⟨vp_in_nI hp (by omega), nI_ne0 hM (by omega), ?_⟩
      rw [pk_rem (by omega) hM (by omega), pd_l5, nI_clamp (n := 5 * 0 + _) (by omega), hO.2 0 _ hp hd, nI_clamp (n := 0) (by omega)]
      refine ⟨vp_in_nI (by omega) (by omega), vp_in_nI hp (by omega), nm_e ⟨nI_ne0 hM (by omega), nm_e (nm_r (e' := -1) (by decide) (br_t (by decide) (h _ ?_)))⟩⟩
      intro q hq
      by_cases z : q = 0
      · subst z; exact pk_us
      · rw [pk_un z]; exact h1 q (by omega) hq
    | succ p ih =>
      intro hp c h1
      have hr := pd_rkle aO n (4 - (p + 1))
      have hM := pd_Mpos aO (p + 1)
      have hM5 := pd_M5 h4 hp
      have hd : pd_rk aO n (4 - (p + 1)) % pd_M aO (p + 1) < pd_M aO (p + 1) := Nat.mod_lt _ hM
      have e4 : 4 - p = (4 - (p + 1)) + 1 := by omega
      have e5 : 4 - (4 - (p + 1)) = p + 1 := by omega
      have er : pd_rk aO n (4 - p) = pd_rk aO n (4 - (p + 1)) / pd_M aO (p + 1) := by rw [e4, pd_rk, e5]
      refine br_f (nI_pos (by omega)) ⟨vp_in_nI hp (by omega), ?_⟩
      rw [nI_clamp (n := p + 1) (by omega), hO.1 (p + 1) hp]
      refine br_t (nI_le (a := 1) hM (by omega)) ⟨vp_in_nI hp (by omega), nI_ne0 hM (by omega), ?_⟩
      rw [pk_rem (by omega) hM (by omega), pd_l5, nI_clamp (n := 5 * (p + 1) + _) (by omega), hO.2 (p + 1) _ hp hd, nI_clamp (n := p + 1) (by omega)]
      refine ⟨vp_in_nI (by omega) (by omega), vp_in_nI hp (by omega), nm_e ⟨nI_ne0 hM (by omega), nm_r (e' := nI (pd_rk aO n (4 - p))) (by rw [pk_div (by omega) hM (by omega), er]) (nm_r (pk_m1 p) (ih (by omega) _ ?_))⟩⟩
      intro q hq hq5
      by_cases z : q = p + 1
      · subst z; exact pk_us
      · rw [pk_un z]; exact h1 q (by omega) hq5
  exact ⟨6, key 4 (by omega) yC (fun q a b => by omega)⟩
def pd_P (aO : Nat → Int32) : Nat → Nat
  | 0 => 1
  | i + 1 => pd_P aO i * pd_M aO i
theorem pd_PT (aO : Nat → Int32) : pd_P aO 5 = pd_T aO := by
  simp only [pd_P, pd_T, Nat.one_mul]
theorem pd_T3125 {aO : Nat → Int32} (h4 : pd_4 aO) : pd_T aO ≤ 3125 := by
  have a := pd_M5 h4 (show 0 < 5 by omega)
  have b := pd_M5 h4 (show 1 < 5 by omega)
  have c := pd_M5 h4 (show 2 < 5 by omega)
  have d := pd_M5 h4 (show 3 < 5 by omega)
  have e := pd_M5 h4 (show 4 < 5 by omega)
  exact Nat.mul_le_mul (Nat.mul_le_mul (Nat.mul_le_mul (Nat.mul_le_mul a b) c) d) e
theorem pd_Tpos (aO : Nat → Int32) : 0 < pd_T aO :=
  Nat.mul_pos (Nat.mul_pos (Nat.mul_pos (Nat.mul_pos (pd_Mpos _ _) (pd_Mpos _ _)) (pd_Mpos _ _)) (pd_Mpos _ _)) (pd_Mpos _ _)
def pd_V (aV aO : Nat → Int32) : Prop := ∀ p, p < 5 → aV p = nI (pd_L aO p).length
theorem xp_cc {post : Int32 → Prop} (hV : pd_V aV aO) (h : post (nI (pd_T aO))) : wpX_countChoices post (fw, fp, fl, fk, fc, fg, aV, aO, aP, aD, aN, aT, aR, aH, aW, aG, aL, aK, aU, aE, tA, tM, tB, tO, tS) := by
  have key : ∀ g i, i + g = 5 → wX_countChoices_4 post fw fp fl fk fc fg aV aO aP aD aN aT aR aH aW aG aL aK aU aE tA tM tB tO tS (g + 1) (nI (pd_P aO i)) (nI i) := by
    intro g
    induction g with
    | zero =>
      intro i hi
      have e : i = 5 := by omega
      subst e
      rw [pd_PT]
      exact br_t (by decide) h
    | succ g ih =>
      intro i hi
      have hi5 : i < 5 := by omega
      refine br_f (lt5' i hi5) ⟨vp_in_nI hi5 (by omega), ?_⟩
      rw [nI_clamp (n := i) (by omega), hV i hi5, nI_1, pk_mul]
      exact nm_e (nm_r (nI_1 i) (ih (i + 1) (by omega)))
  exact ⟨6, key 5 0 rfl⟩
theorem yp_cs {post : Int32 → Prop} (hO : pd_Op aO yA yM) (h : post (nI (pd_T aO))) : wpY_choices post (fw, fp, fl, fk, yN, fg, yO, aO, aP, aD, aN, aT, aR, aH, aW, aG, yA, yM, yC, aL, aK, aU, aE, yR) := by
  unfold wpY_choices
  dsimp only
  rw [hO.1 0 (by omega), hO.1 1 (by omega), hO.1 2 (by omega), hO.1 3 (by omega), hO.1 4 (by omega), pk_mul, pk_mul, pk_mul, pk_mul]
  exact h
theorem pd_ci0 (aO : Nat → Int32) (p : Nat) : pd_ci aO 0 p = 0 := by
  have e : ∀ k, pd_rk aO 0 k = 0 := fun k => Nat.le_zero.mp (pd_rkle aO 0 k)
  unfold pd_ci pd_c
  rw [e, Nat.zero_mod]
  rfl
theorem xp_st {post : SX → Prop} (h : ∀ t, (∀ p, p < 5 → t p = pd_ci aO 0 p) → post (fw, fp, fl, fk, fc, fg, aV, aO, aP, aD, aN, aT, aR, aH, aW, aG, aL, aK, aU, aE, t, tM, tB, tO, tS)) : wpX_startTrial post (fw, fp, fl, fk, fc, fg, aV, aO, aP, aD, aN, aT, aR, aH, aW, aG, aL, aK, aU, aE, tA, tM, tB, tO, tS) := by
  have key : ∀ g i, i + g = 5 → ∀ t : Nat → Int32, (∀ p, p < i → t p = pd_ci aO 0 p) → wX_startTrial_2 post fw fp fl fk fc fg (g + 1) (nI i) aV aO aP aD aN aT aR aH aW aG aL aK aU aE t tM tB tO tS := by
    intro g
    induction g with
    | zero =>
      intro i hi t ht
      have e : i = 5 := by omega
      subst e
      exact br_t (by decide) (h t ht)
    | succ g ih =>
      intro i hi t ht
      have hi5 : i < 5 := by omega
      refine br_f (lt5' i hi5) ⟨vp_in_nI hi5 (by omega), ?_⟩
      rw [nI_clamp (n := i) (by omega)]
      refine nm_e (nm_r (nI_1 i) (ih (i + 1) (by omega) _ ?_))
      intro p hp
      by_cases z : p = i
      · subst z; rw [pk_us, pd_ci0]
      · rw [pk_un z]; exact ht p (by omega)
  exact ⟨6, key 5 0 rfl tA (fun p hp => absurd hp (Nat.not_lt_zero _))⟩
theorem xp_cp_trial_planned {post : SX → Prop} (h : post (fw, fp, fl, fk, fc, fg, aV, aO, aP, aD, aN, aT, aR, aH, aW, aG, pd_cp aL tA 5, aK, aU, aE, tA, tM, tB, tO, tS)) : wpX_copyChoice__trial_planned post (fw, fp, fl, fk, fc, fg, aV, aO, aP, aD, aN, aT, aR, aH, aW, aG, aL, aK, aU, aE, tA, tM, tB, tO, tS) := by
  have key : ∀ g i, i + g = 5 → wX_copyChoice__trial_planned_2 post fw fp fl fk fc fg (g + 1) (nI i) aV aO aP aD aN aT aR aH aW aG (pd_cp aL tA i) aK aU aE tA tM tB tO tS := by
    intro g
    induction g with
    | zero =>
      intro i hi
      have e : i = 5 := by omega
      subst e
      exact br_t (by decide) h
    | succ g ih =>
      intro i hi
      have hi5 : i < 5 := by omega
      refine br_f (lt5' i hi5) ⟨vp_in_nI hi5 (by omega), vp_in_nI hi5 (by omega), ?_⟩
      rw [nI_clamp (n := i) (by omega), pd_cps]
      exact nm_e (nm_r (nI_1 i) (ih (i + 1) (by omega)))
  have k0 := key 5 0 rfl
  rw [pd_cp0] at k0
  exact ⟨6, k0⟩
theorem xp_cp_planned_lockedIn {post : SX → Prop} (h : post (fw, fp, fl, fk, fc, fg, aV, aO, aP, aD, aN, aT, aR, aH, aW, aG, aL, pd_cp aK aL 5, aU, aE, tA, tM, tB, tO, tS)) : wpX_copyChoice__planned_lockedIn post (fw, fp, fl, fk, fc, fg, aV, aO, aP, aD, aN, aT, aR, aH, aW, aG, aL, aK, aU, aE, tA, tM, tB, tO, tS) := by
  have key : ∀ g i, i + g = 5 → wX_copyChoice__planned_lockedIn_2 post fw fp fl fk fc fg (g + 1) (nI i) aV aO aP aD aN aT aR aH aW aG aL (pd_cp aK aL i) aU aE tA tM tB tO tS := by
    intro g
    induction g with
    | zero =>
      intro i hi
      have e : i = 5 := by omega
      subst e
      exact br_t (by decide) h
    | succ g ih =>
      intro i hi
      have hi5 : i < 5 := by omega
      refine br_f (lt5' i hi5) ⟨vp_in_nI hi5 (by omega), vp_in_nI hi5 (by omega), ?_⟩
      rw [nI_clamp (n := i) (by omega), pd_cps]
      exact nm_e (nm_r (nI_1 i) (ih (i + 1) (by omega)))
  have k0 := key 5 0 rfl
  rw [pd_cp0] at k0
  exact ⟨6, k0⟩
theorem xp_cp_lockedIn_planned {post : SX → Prop} (h : post (fw, fp, fl, fk, fc, fg, aV, aO, aP, aD, aN, aT, aR, aH, aW, aG, pd_cp aL aK 5, aK, aU, aE, tA, tM, tB, tO, tS)) : wpX_copyChoice__lockedIn_planned post (fw, fp, fl, fk, fc, fg, aV, aO, aP, aD, aN, aT, aR, aH, aW, aG, aL, aK, aU, aE, tA, tM, tB, tO, tS) := by
  have key : ∀ g i, i + g = 5 → wX_copyChoice__lockedIn_planned_2 post fw fp fl fk fc fg (g + 1) (nI i) aV aO aP aD aN aT aR aH aW aG (pd_cp aL aK i) aK aU aE tA tM tB tO tS := by
    intro g
    induction g with
    | zero =>
      intro i hi
      have e : i = 5 := by omega
      subst e
      exact br_t (by decide) h
    | succ g ih =>
      intro i hi
      have hi5 : i < 5 := by omega
      refine br_f (lt5' i hi5) ⟨vp_in_nI hi5 (by omega), vp_in_nI hi5 (by omega), ?_⟩
      rw [nI_clamp (n := i) (by omega), pd_cps]
      exact nm_e (nm_r (nI_1 i) (ih (i + 1) (by omega)))
  have k0 := key 5 0 rfl
  rw [pd_cp0] at k0
  exact ⟨6, k0⟩
def pd_n (c : Nat → Int32) : Nat → Nat
  | 0 => 0
  | p + 1 => if c p = 0 then pd_n c p else pd_n c p + 1
theorem pd_nc {c c' : Nat → Int32} : ∀ q, (∀ p, p < q → c p = c' p) → pd_n c q = pd_n c' q := by
  intro q
  induction q with
  | zero => intro _; rfl
  | succ q ih =>
    intro h
    rw [pd_n, pd_n, ih (fun p hp => h p (by omega)), h q (by omega)]
theorem xp_cg_planned {post : Int32 → Prop} (h : post (nI (pd_n aL 5))) : wpX_countGiven__planned post (fw, fp, fl, fk, fc, fg, aV, aO, aP, aD, aN, aT, aR, aH, aW, aG, aL, aK, aU, aE, tA, tM, tB, tO, tS) := by
  have key : ∀ g i, i + g = 5 → wX_countGiven__planned_4 post fw fp fl fk fc fg aV aO aP aD aN aT aR aH aW aG aL aK aU aE tA tM tB tO tS (g + 1) (nI (pd_n aL i)) (nI i) := by
    intro g
    induction g with
    | zero =>
      intro i hi
      have e : i = 5 := by omega
      subst e
      exact br_t (by decide) h
    | succ g ih =>
      intro i hi
      have hi5 : i < 5 := by omega
      have i2 := ih (i + 1) (by omega)
      rw [pd_n] at i2
      refine br_f (lt5' i hi5) ⟨vp_in_nI hi5 (by omega), ?_⟩
      rw [nI_clamp (n := i) (by omega)]
      refine br_c (fun z => ?_) (fun z => ?_)
      · rw [if_pos z] at i2
        exact nm_r (nI_1 i) i2
      · rw [if_neg z] at i2
        exact nm_r (nI_1 _) (nm_r (nI_1 i) i2)
  exact ⟨6, key 5 0 rfl⟩
theorem xp_cg_lockedIn {post : Int32 → Prop} (h : post (nI (pd_n aK 5))) : wpX_countGiven__lockedIn post (fw, fp, fl, fk, fc, fg, aV, aO, aP, aD, aN, aT, aR, aH, aW, aG, aL, aK, aU, aE, tA, tM, tB, tO, tS) := by
  have key : ∀ g i, i + g = 5 → wX_countGiven__lockedIn_4 post fw fp fl fk fc fg aV aO aP aD aN aT aR aH aW aG aL aK aU aE tA tM tB tO tS (g + 1) (nI (pd_n aK i)) (nI i) := by
    intro g
    induction g with
    | zero =>
      intro i hi
      have e : i = 5 := by omega
      subst e
      exact br_t (by decide) h
    | succ g ih =>
      intro i hi
      have hi5 : i < 5 := by omega
      have i2 := ih (i + 1) (by omega)
      rw [pd_n] at i2
      refine br_f (lt5' i hi5) ⟨vp_in_nI hi5 (by omega), ?_⟩
      rw [nI_clamp (n := i) (by omega)]
      refine br_c (fun z => ?_) (fun z => ?_)
      · rw [if_pos z] at i2
        exact nm_r (nI_1 i) i2
      · rw [if_neg z] at i2
        exact nm_r (nI_1 _) (nm_r (nI_1 i) i2)
  exact ⟨6, key 5 0 rfl⟩
theorem yp_sz {post : Int32 → Prop} (h9 : pd_9 yC) (h : post (nI (pd_n yC 5))) : wpY_size post (fw, fp, fl, fk, yN, fg, yO, aO, aP, aD, aN, aT, aR, aH, aW, aG, yA, yM, yC, aL, aK, aU, aE, yR) := by
  have key : ∀ g i, i + g = 5 → wY_size_4 post fw fp fl fk yN fg yO aO aP aD aN aT aR aH aW aG yA yM yC aL aK aU aE yR (g + 1) (nI (pd_n yC i)) (nI i) := by
    intro g
    induction g with
    | zero =>
      intro i hi
      have e : i = 5 := by omega
      subst e
      exact br_t (by decide) h
    | succ g ih =>
      intro i hi
      have hi5 : i < 5 := by omega
      have i2 := ih (i + 1) (by omega)
      obtain ⟨x, hx, ex⟩ := h9 i hi5
      rw [pd_n] at i2
      refine br_f (lt5' i hi5) ⟨vp_in_nI hi5 (by omega), ?_⟩
      rw [nI_clamp (n := i) (by omega), ex]
      refine pk_le x 0 (fun z => ?_) (fun z => ?_) rfl rfl (by omega) (by omega)
      · rw [if_pos (by rw [ex, show x = 0 by omega]; rfl)] at i2
        exact nm_r (nI_1 i) i2
      · rw [if_neg (by rw [ex]; exact nI_ne0 (by omega) (by omega))] at i2
        exact nm_r (nI_1 _) (nm_r (nI_1 i) i2)
  exact ⟨6, key 5 0 rfl⟩
