/-! the searches: solve, solutions, possible, each side against the numbering of the choices -/
variable {fw fp fl fk fc fg yN yO : Int32} {aV aO aP aD aN aT aR aH aW aG aL aK aU aE tA tM tB tO tS yA yM yC yR : Nat → Int32}
theorem pd_ci9 (aO : Nat → Int32) (n : Nat) : pd_9 (pd_ci aO n) := fun p _ => ⟨_, pd_c9 aO n p, rfl⟩
theorem pd_tr9 {aO t : Nat → Int32} {n : Nat} (ht : ∀ p, p < 5 → t p = pd_ci aO n p) : pd_9 t := pd_9c (pd_ci9 aO n) (fun p hp => (ht p hp).symm)
theorem xp_solve {post : Int32 → SX → Prop} {w j : Nat} (hw : fw = nI w) (hw4 : w ≤ 4) (hI : pd_I aD aT aW) (h4 : pd_4 aO) (hV : pd_V aV aO) (hj : j ≤ pd_T aO)
    (hN : ∀ i, i < j → ¬ pd_Q w aP aD aN aT aR aH aW aG (pd_ci aO i)) (hF : j < pd_T aO → pd_Q w aP aD aN aT aR aH aW aG (pd_ci aO j))
    (pN : j = pd_T aO → ∀ t, post (-4) (fw, 0, fl, fk, fc, fg, aV, aO, aP, aD, aN, aT, aR, aH, aW, aG, aL, aK, aU, aE, t, tM, tB, tO, tS)) (pF : j < pd_T aO → ∀ t, post (nI (pd_n (pd_ci aO j) 5)) (fw, 1, fl, fk, fc, fg, aV, aO, aP, aD, aN, aT, aR, aH, aW, aG, pd_cp aL (pd_ci aO j) 5, aK, aU, aE, t, tM, tB, tO, tS)) : wpX_solve post (fw, fp, fl, fk, fc, fg, aV, aO, aP, aD, aN, aT, aR, aH, aW, aG, aL, aK, aU, aE, tA, tM, tB, tO, tS) := by
  have hT := pd_T3125 h4
  have key : ∀ g i, i + g = j → ∀ t, (∀ p, p < 5 → t p = pd_ci aO i p) → wX_solve_11 post (nI (pd_T aO)) (g + 1) (nI i) fw fp fl fk fc fg aV aO aP aD aN aT aR aH aW aG aL aK aU aE t tM tB tO tS := by
    intro g
    induction g with
    | zero =>
      intro i hi t ht
      have e : i = j := by omega
      subst e
      have qi := pd_Qi (w := w) (aP := aP) (aN := aN) (aR := aR) (aH := aH) (aG := aG) hw4 hI (pd_tr9 ht) ht
      by_cases z : i = pd_T aO
      · exact br_t (nI_le (by omega) (by omega)) (pN z t)
      · have hlt : i < pd_T aO := by omega
        refine br_f (nI_ge hlt (by omega)) (xp_sol_trial hw hw4 hI (pd_tr9 ht) (fun q => br_f (by decide) ?_) (fun q => absurd (qi.mpr (hF hlt)) q))
        refine xp_cp_trial_planned (xp_cg_planned ?_)
        rw [pd_nc 5 (fun p hp => (pd_cpe hp).trans (ht p hp)), pd_cpc ht]
        exact pF hlt t
    | succ g ih =>
      intro i hi t ht
      have qi := pd_Qi (w := w) (aP := aP) (aN := aN) (aR := aR) (aH := aH) (aG := aG) hw4 hI (pd_tr9 ht) ht
      refine br_f (nI_ge (show i < pd_T aO by omega) (by omega)) (xp_sol_trial hw hw4 hI (pd_tr9 ht) (fun q => absurd (qi.mp q) (hN i (by omega))) (fun q => br_t rfl ?_))
      exact xp_nt ht (fun t' ht' => nm_r (nI_1 i) (ih (i + 1) (by omega) t' ht'))
  unfold wpX_solve
  refine xp_cc hV (xp_st (fun t ht => ⟨j + 1, key j 0 (by omega) t ht⟩))
theorem yp_solve {post : Int32 → SY → Prop} {w j : Nat} (hw : fw = nI w) (hw4 : w ≤ 4) (hI : pd_I aD aT aW) (h4 : pd_4 aO) (hj : j ≤ pd_T aO)
    (hN : ∀ i, i < j → ¬ pd_Q w aP aD aN aT aR aH aW aG (pd_ci aO i)) (hF : j < pd_T aO → pd_Q w aP aD aN aT aR aH aW aG (pd_ci aO j))
    (pN : j = pd_T aO → ∀ a m c, post (-4) (fw, 0, fl, fk, yN, fg, yO, aO, aP, aD, aN, aT, aR, aH, aW, aG, a, m, c, aL, aK, aU, aE, yR)) (pF : j < pd_T aO → ∀ a m c, post (nI (pd_n (pd_ci aO j) 5)) (fw, 1, fl, fk, yN, fg, yO, aO, aP, aD, aN, aT, aR, aH, aW, aG, a, m, c, pd_cp aL (pd_ci aO j) 5, aK, aU, aE, yR)) : wpY_solve post (fw, fp, fl, fk, yN, fg, yO, aO, aP, aD, aN, aT, aR, aH, aW, aG, yA, yM, yC, aL, aK, aU, aE, yR) := by
  have hT := pd_T3125 h4
  have cp : ∀ a m c : Nat → Int32, pd_9 c → post (nI (pd_n c 5)) (fw, 1, fl, fk, yN, fg, yO, aO, aP, aD, aN, aT, aR, aH, aW, aG, a, m, c, pd_cp aL c 5, aK, aU, aE, yR) → ∀ g i, i + g = 5 → wY_solve_33 post fw 1 fl fk yN fg yO (g + 1) (nI i) aO aP aD aN aT aR aH aW aG a m c (pd_cp aL c i) aK aU aE yR := by
    intro a m c h9 hp g
    induction g with
    | zero =>
      intro i hi
      have e : i = 5 := by omega
      subst e
      exact br_t (by decide) (yp_sz h9 hp)
    | succ g ih =>
      intro i hi
      have hi5 : i < 5 := by omega
      refine br_f (lt5' i hi5) ⟨vp_in_nI hi5 (by omega), vp_in_nI hi5 (by omega), ?_⟩
      rw [nI_clamp (n := i) (by omega), pd_cps]
      exact nm_e (nm_r (nI_1 i) (ih (i + 1) (by omega)))
  have key : ∀ a m : Nat → Int32, pd_Op aO a m → ∀ g i, i + g = j → ∀ c : Nat → Int32, wY_solve_6 post (g + 1) (nI i) fw fp fl fk yN fg yO aO aP aD aN aT aR aH aW aG a m c aL aK aU aE yR := by
    intro a m hO g
    induction g with
    | zero =>
      intro i hi c
      have e : i = j := by omega
      subst e
      by_cases z : i = pd_T aO
      · rw [wY_solve_6]
        exact yp_cs hO (br_t (nI_le (by omega) (by omega)) (pN z a m c))
      · have hlt : i < pd_T aO := by omega
        rw [wY_solve_6]
        refine yp_cs hO (br_f (nI_ge hlt (by omega)) (yp_take (by omega) h4 hO (fun c ht => ?_)))
        have qi := pd_Qi (w := w) (aP := aP) (aN := aN) (aR := aR) (aH := aH) (aG := aG) hw4 hI (pd_tr9 ht) ht
        refine yp_sol hw hw4 hI (pd_tr9 ht) (fun q => br_f (by decide) ⟨6, ?_⟩) (fun q => absurd (qi.mpr (hF hlt)) q)
        have k0 := cp a m c (pd_tr9 ht) (by rw [pd_nc 5 ht, pd_cpc ht]; exact pF hlt a m c) 5 0 rfl
        rw [pd_cp0] at k0
        exact k0
    | succ g ih =>
      intro i hi c
      rw [wY_solve_6]
      refine yp_cs hO (br_f (nI_ge (show i < pd_T aO by omega) (by omega)) (yp_take (by omega) h4 hO (fun c ht => ?_)))
      have qi := pd_Qi (w := w) (aP := aP) (aN := aN) (aR := aR) (aH := aH) (aG := aG) hw4 hI (pd_tr9 ht) ht
      exact yp_sol hw hw4 hI (pd_tr9 ht) (fun q => absurd (qi.mp q) (hN i (by omega))) (fun q => br_t rfl (nm_r (nI_1 i) (ih (i + 1) (by omega) c)))
  unfold wpY_solve
  exact yp_list h4 (fun a m hO => ⟨j + 1, key a m hO j 0 (by omega) yC⟩)
noncomputable def pd_k (P : Nat → Prop) : Nat → Nat
  | 0 => 0
  | i + 1 => @ite Nat (P i) (Classical.propDecidable _) (pd_k P i + 1) (pd_k P i)
theorem pd_kP {P : Nat → Prop} {i : Nat} (h : P i) : pd_k P (i + 1) = pd_k P i + 1 := by
  rw [pd_k, if_pos h]
theorem pd_kN {P : Nat → Prop} {i : Nat} (h : ¬ P i) : pd_k P (i + 1) = pd_k P i := by
  rw [pd_k, if_neg h]
theorem xp_sols {post : Int32 → SX → Prop} {w : Nat} (hw : fw = nI w) (hw4 : w ≤ 4) (hI : pd_I aD aT aW) (h4 : pd_4 aO) (hV : pd_V aV aO)
    (h : ∀ t, post (nI (pd_k (fun i => pd_Q w aP aD aN aT aR aH aW aG (pd_ci aO i)) (pd_T aO))) (fw, fp, fl, fk, fc, fg, aV, aO, aP, aD, aN, aT, aR, aH, aW, aG, aL, aK, aU, aE, t, tM, tB, tO, tS)) : wpX_solutions post (fw, fp, fl, fk, fc, fg, aV, aO, aP, aD, aN, aT, aR, aH, aW, aG, aL, aK, aU, aE, tA, tM, tB, tO, tS) := by
  have hT := pd_T3125 h4
  have key : ∀ g i, i + g = pd_T aO → ∀ t, (∀ p, p < 5 → t p = pd_ci aO i p) → wX_solutions_13 post (nI (pd_T aO)) (g + 1) (nI (pd_k (fun i => pd_Q w aP aD aN aT aR aH aW aG (pd_ci aO i)) i)) (nI i) fw fp fl fk fc fg aV aO aP aD aN aT aR aH aW aG aL aK aU aE t tM tB tO tS := by
    intro g
    induction g with
    | zero =>
      intro i hi t ht
      have e : i = pd_T aO := by omega
      subst e
      exact br_t (nI_le (by omega) (by omega)) (h t)
    | succ g ih =>
      intro i hi t ht
      have qi := pd_Qi (w := w) (aP := aP) (aN := aN) (aR := aR) (aH := aH) (aG := aG) hw4 hI (pd_tr9 ht) ht
      refine br_f (nI_ge (show i < pd_T aO by omega) (by omega)) (xp_sol_trial hw hw4 hI (pd_tr9 ht) (fun q => br_f (by decide) (nm_r (nI_1 _) ?_)) (fun q => br_t rfl ?_))
      · refine xp_nt ht (fun t' ht' => nm_r (nI_1 i) ?_)
        have i2 := ih (i + 1) (by omega) t' ht'
        rw [pd_kP (P := fun i => pd_Q w aP aD aN aT aR aH aW aG (pd_ci aO i)) (qi.mp q)] at i2
        exact i2
      · refine xp_nt ht (fun t' ht' => nm_r (nI_1 i) ?_)
        have i2 := ih (i + 1) (by omega) t' ht'
        rw [pd_kN (P := fun i => pd_Q w aP aD aN aT aR aH aW aG (pd_ci aO i)) (fun y => q (qi.mpr y))] at i2
        exact i2
  unfold wpX_solutions
  exact xp_cc hV (xp_st (fun t ht => ⟨_, key (pd_T aO) 0 (by omega) t ht⟩))
theorem yp_sols {post : Int32 → SY → Prop} {w : Nat} (hw : fw = nI w) (hw4 : w ≤ 4) (hI : pd_I aD aT aW) (h4 : pd_4 aO)
    (h : ∀ a m c, post (nI (pd_k (fun i => pd_Q w aP aD aN aT aR aH aW aG (pd_ci aO i)) (pd_T aO))) (fw, fp, fl, fk, yN, fg, yO, aO, aP, aD, aN, aT, aR, aH, aW, aG, a, m, c, aL, aK, aU, aE, yR)) : wpY_solutions post (fw, fp, fl, fk, yN, fg, yO, aO, aP, aD, aN, aT, aR, aH, aW, aG, yA, yM, yC, aL, aK, aU, aE, yR) := by
  have hT := pd_T3125 h4
  have key : ∀ a m : Nat → Int32, pd_Op aO a m → ∀ g i, i + g = pd_T aO → ∀ c : Nat → Int32, wY_solutions_8 post (g + 1) (nI (pd_k (fun i => pd_Q w aP aD aN aT aR aH aW aG (pd_ci aO i)) i)) (nI i) fw fp fl fk yN fg yO aO aP aD aN aT aR aH aW aG a m c aL aK aU aE yR := by
    intro a m hO g
    induction g with
    | zero =>
      intro i hi c
      have e : i = pd_T aO := by omega
      subst e
      rw [wY_solutions_8]
      exact yp_cs hO (br_t (nI_le (by omega) (by omega)) (h a m c))
    | succ g ih =>
      intro i hi c
      rw [wY_solutions_8]
      refine yp_cs hO (br_f (nI_ge (show i < pd_T aO by omega) (by omega)) (yp_take (by omega) h4 hO (fun c ht => ?_)))
      have qi := pd_Qi (w := w) (aP := aP) (aN := aN) (aR := aR) (aH := aH) (aG := aG) hw4 hI (pd_tr9 ht) ht
      refine yp_sol hw hw4 hI (pd_tr9 ht) (fun q => br_f (by decide) (nm_r (nI_1 _) (nm_r (nI_1 i) ?_))) (fun q => br_t rfl (nm_r (nI_1 i) ?_))
      · have i2 := ih (i + 1) (by omega) c
        rw [pd_kP (P := fun i => pd_Q w aP aD aN aT aR aH aW aG (pd_ci aO i)) (qi.mp q)] at i2
        exact i2
      · have i2 := ih (i + 1) (by omega) c
        rw [pd_kN (P := fun i => pd_Q w aP aD aN aT aR aH aW aG (pd_ci aO i)) (fun y => q (qi.mpr y))] at i2
        exact i2
  unfold wpY_solutions
  exact yp_list h4 (fun a m hO => ⟨_, key a m hO (pd_T aO) 0 (by omega) yC⟩)
theorem xp_pos {post : Int32 → SX → Prop} {w j q v : Nat} (hq : q < 5) (hv : v ≤ 9) (hw : fw = nI w) (hw4 : w ≤ 4) (hI : pd_I aD aT aW) (h4 : pd_4 aO) (hj : j ≤ pd_T aO)
    (hN : ∀ i, i < j → ¬ (pd_ci aO i q = nI v ∧ pd_Q w aP aD aN aT aR aH aW aG (pd_ci aO i))) (hF : j < pd_T aO → pd_ci aO j q = nI v ∧ pd_Q w aP aD aN aT aR aH aW aG (pd_ci aO j))
    (pN : j = pd_T aO → ∀ t, post 0 (fw, fp, fl, fk, fc, fg, aV, aO, aP, aD, aN, aT, aR, aH, aW, aG, aL, aK, aU, aE, t, tM, tB, tO, tS)) (pF : j < pd_T aO → ∀ t, post 1 (fw, fp, fl, fk, fc, fg, aV, aO, aP, aD, aN, aT, aR, aH, aW, aG, aL, aK, aU, aE, t, tM, tB, tO, tS)) : ∀ g i, i + g = j → ∀ t, (∀ p, p < 5 → t p = pd_ci aO i p) → wX_possible_31 post (nI q) (nI v) (nI (pd_T aO)) (g + 1) (nI i) fw fp fl fk fc fg aV aO aP aD aN aT aR aH aW aG aL aK aU aE t tM tB tO tS := by
  have hT := pd_T3125 h4
  intro g
  induction g with
  | zero =>
    intro i hi t ht
    have e : i = j := by omega
    subst e
    have qi := pd_Qi (w := w) (aP := aP) (aN := aN) (aR := aR) (aH := aH) (aG := aG) hw4 hI (pd_tr9 ht) ht
    by_cases z : i = pd_T aO
    · exact br_t (nI_le (by omega) (by omega)) (pN z t)
    · have hlt : i < pd_T aO := by omega
      refine br_f (nI_ge hlt (by omega)) ⟨vp_in_nI hq (by omega), ?_⟩
      rw [nI_clamp (n := q) (by omega)]
      exact br_t ((ht q hq).trans (hF hlt).1) (xp_sol_trial hw hw4 hI (pd_tr9 ht) (fun _ => br_f (by decide) (pF hlt t)) (fun y => absurd (qi.mpr (hF hlt).2) y))
  | succ g ih =>
    intro i hi t ht
    have qi := pd_Qi (w := w) (aP := aP) (aN := aN) (aR := aR) (aH := aH) (aG := aG) hw4 hI (pd_tr9 ht) ht
    refine br_f (nI_ge (show i < pd_T aO by omega) (by omega)) ⟨vp_in_nI hq (by omega), ?_⟩
    rw [nI_clamp (n := q) (by omega)]
    have nx : wX_possible_60 post (wX_possible_31 post (nI q) (nI v) (nI (pd_T aO)) (g + 1)) (nI q) (nI v) (nI (pd_T aO)) (nI i) fw fp fl fk fc fg aV aO aP aD aN aT aR aH aW aG aL aK aU aE t tM tB tO tS := xp_nt ht (fun t' ht' => nm_r (nI_1 i) (ih (i + 1) (by omega) t' ht'))
    exact br_c (fun e => xp_sol_trial hw hw4 hI (pd_tr9 ht) (fun y => absurd ⟨(ht q hq).symm.trans e, qi.mp y⟩ (hN i (by omega))) (fun _ => br_t rfl nx)) (fun _ => nx)
theorem yp_pos {post : Int32 → SY → Prop} {w j q v : Nat} {a m : Nat → Int32} (hO : pd_Op aO a m) (hq : q < 5) (hv : v ≤ 9) (hw : fw = nI w) (hw4 : w ≤ 4) (hI : pd_I aD aT aW) (h4 : pd_4 aO) (hj : j ≤ pd_T aO)
    (hN : ∀ i, i < j → ¬ (pd_ci aO i q = nI v ∧ pd_Q w aP aD aN aT aR aH aW aG (pd_ci aO i))) (hF : j < pd_T aO → pd_ci aO j q = nI v ∧ pd_Q w aP aD aN aT aR aH aW aG (pd_ci aO j))
    (pN : j = pd_T aO → ∀ c, post 0 (fw, fp, fl, fk, yN, fg, yO, aO, aP, aD, aN, aT, aR, aH, aW, aG, a, m, c, aL, aK, aU, aE, yR)) (pF : j < pd_T aO → ∀ c, post 1 (fw, fp, fl, fk, yN, fg, yO, aO, aP, aD, aN, aT, aR, aH, aW, aG, a, m, c, aL, aK, aU, aE, yR)) : ∀ g i, i + g = j → ∀ c, wY_possible_26 post (nI q) (nI v) (g + 1) (nI i) fw fp fl fk yN fg yO aO aP aD aN aT aR aH aW aG a m c aL aK aU aE yR := by
  have hT := pd_T3125 h4
  intro g
  induction g with
  | zero =>
    intro i hi c
    have e : i = j := by omega
    subst e
    by_cases z : i = pd_T aO
    · rw [wY_possible_26]
      exact yp_cs hO (br_t (nI_le (by omega) (by omega)) (pN z c))
    · have hlt : i < pd_T aO := by omega
      rw [wY_possible_26]
      refine yp_cs hO (br_f (nI_ge hlt (by omega)) (yp_take (by omega) h4 hO (fun c ht => ⟨vp_in_nI hq (by omega), ?_⟩)))
      have qi := pd_Qi (w := w) (aP := aP) (aN := aN) (aR := aR) (aH := aH) (aG := aG) hw4 hI (pd_tr9 ht) ht
      rw [nI_clamp (n := q) (by omega)]
      exact br_t ((ht q hq).trans (hF hlt).1) (yp_sol hw hw4 hI (pd_tr9 ht) (fun _ => br_f (by decide) (pF hlt c)) (fun y => absurd (qi.mpr (hF hlt).2) y))
  | succ g ih =>
    intro i hi c
    rw [wY_possible_26]
    refine yp_cs hO (br_f (nI_ge (show i < pd_T aO by omega) (by omega)) (yp_take (by omega) h4 hO (fun c ht => ⟨vp_in_nI hq (by omega), ?_⟩)))
    have qi := pd_Qi (w := w) (aP := aP) (aN := aN) (aR := aR) (aH := aH) (aG := aG) hw4 hI (pd_tr9 ht) ht
    rw [nI_clamp (n := q) (by omega)]
    exact br_c (fun e => yp_sol hw hw4 hI (pd_tr9 ht) (fun y => absurd ⟨(ht q hq).symm.trans e, qi.mp y⟩ (hN i (by omega))) (fun _ => br_t rfl (nm_r (nI_1 i) (ih (i + 1) (by omega) c)))) (fun _ => nm_r (nI_1 i) (ih (i + 1) (by omega) c))
