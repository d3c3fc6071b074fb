/-! solve, chosen, solutions, possible, blame, lock, locked, reuse -/
section
variable {fw fp fl fk fc fg yN yO : Int32} {aV aO aP aD aN aT aR aH aW aG aL aK aU aE tA tM tB tO tS yA yM yC yR : Nat → Int32}
theorem pd_9cp {a b : Nat → Int32} (h : pd_9 b) : pd_9 (pd_cp a b 5) := fun p hp => by rw [pd_cpe hp]; exact h p hp
def pd_Ix (aO aK : Nat → Int32) : Prop := ∀ p, p < 5 → ¬ aK p = 0 → ¬ aO (10 * p + (aK p).toNatClampNeg) = 0
theorem xp_ii {post : Int32 → Prop} (hK : pd_9 aK) (h1 : pd_Ix aO aK → post 1) (h0 : ¬ pd_Ix aO aK → post 0) : wpX_isInIndex__lockedIn post (fw, fp, fl, fk, fc, fg, aV, aO, aP, aD, aN, aT, aR, aH, aW, aG, aL, aK, aU, aE, tA, tM, tB, tO, tS) := by
  have key : ∀ g i, i + g = 5 → (∀ p, p < i → ¬ aK p = 0 → ¬ aO (10 * p + (aK p).toNatClampNeg) = 0) → wX_isInIndex__lockedIn_2 post fw fp fl fk fc fg aV aO aP aD aN aT aR aH aW aG aL aK aU aE tA tM tB tO tS (g + 1) (nI i) := by
    intro g
    induction g with
    | zero =>
      intro i hi hj
      have e : i = 5 := by omega
      subst e
      exact br_t (by decide) (h1 hj)
    | succ g ih =>
      intro i hi hj
      have hi5 : i < 5 := by omega
      obtain ⟨x, hx, ex⟩ := hK i hi5
      have et : (aK i).toNatClampNeg = x := by rw [ex, nI_clamp (by omega)]
      have ee : (10 : Int32) * nI i + aK i = nI (10 * i + x) := by rw [ex]; exact pd_l10 i x
      refine br_f (lt5' i hi5) ⟨vp_in_nI hi5 (by omega), ?_⟩
      rw [nI_clamp (n := i) (by omega), ee, nI_clamp (n := 10 * i + x) (by omega)]
      refine br_c (fun z => nm_r (nI_1 i) (ih (i + 1) (by omega) ?_)) (fun z => ⟨vp_in_nI hi5 (by omega), vp_in_nI (by omega) (by omega), br_c (fun y => h0 ?_) (fun y => nm_r (nI_1 i) (ih (i + 1) (by omega) ?_))⟩)
      · intro p hp
        by_cases q : p = i
        · subst q; exact fun w => absurd z w
        · exact hj p (by omega)
      · intro q
        have := q i hi5 z
        rw [et] at this
        exact this y
      · intro p hp
        by_cases q : p = i
        · subst q; rw [et]; exact fun _ => y
        · exact hj p (by omega)
  exact ⟨6, key 5 0 rfl (fun p hp => absurd hp (Nat.not_lt_zero _))⟩
theorem yp_lh {post : Int32 → SY → Prop} {w : Nat} (hw : fw = nI w) (hw4 : w ≤ 4) (hI : pd_I aD aT aW) (hK : pd_9 aK)
    (h1 : pd_Ix aO aK ∧ pd_Q w aP aD aN aT aR aH aW aG aK → ∀ c, post 1 (fw, fp, fl, fk, yN, fg, yO, aO, aP, aD, aN, aT, aR, aH, aW, aG, yA, yM, c, aL, aK, aU, aE, yR)) (h0 : ¬ (pd_Ix aO aK ∧ pd_Q w aP aD aN aT aR aH aW aG aK) → ∀ c, post 0 (fw, fp, fl, fk, yN, fg, yO, aO, aP, aD, aN, aT, aR, aH, aW, aG, yA, yM, c, aL, aK, aU, aE, yR)) : wpY_lockHolds post (fw, fp, fl, fk, yN, fg, yO, aO, aP, aD, aN, aT, aR, aH, aW, aG, yA, yM, yC, aL, aK, aU, aE, yR) := by
  have key : ∀ g i, i + g = 5 → (∀ p, p < i → ¬ aK p = 0 → ¬ aO (10 * p + (aK p).toNatClampNeg) = 0) → wY_lockHolds_2 post fw fp fl fk yN fg yO (g + 1) (nI i) aO aP aD aN aT aR aH aW aG yA yM (pd_cp yC aK i) aL aK aU aE yR := by
    intro g
    induction g with
    | zero =>
      intro i hi hj
      have e : i = 5 := by omega
      subst e
      have qi := pd_Qi (w := w) (aP := aP) (aN := aN) (aR := aR) (aH := aH) (aG := aG) hw4 hI (pd_9cp (a := yC) hK) (fun p hp => pd_cpe hp)
      exact br_t (by decide) (yp_sol hw hw4 hI (pd_9cp hK) (fun q => ⟨rfl, h1 ⟨hj, qi.mp q⟩ _⟩) (fun q => ⟨rfl, h0 (fun y => q (qi.mpr y.2)) _⟩))
    | succ g ih =>
      intro i hi hj
      have hi5 : i < 5 := by omega
      obtain ⟨x, hx, ex⟩ := hK i hi5
      have et : (aK i).toNatClampNeg = x := by rw [ex, nI_clamp (by omega)]
      have e1 : pd_cp yC aK (i + 1) i = aK i := pd_cpe (by omega)
      have ee : (10 : Int32) * nI i + aK i = nI (10 * i + x) := by rw [ex]; exact pd_l10 i x
      refine br_f (lt5' i hi5) ⟨vp_in_nI hi5 (by omega), vp_in_nI hi5 (by omega), ?_⟩
      rw [nI_clamp (n := i) (by omega), pd_cps]
      refine nm_e ⟨vp_in_nI hi5 (by omega), ?_⟩
      rw [e1, ee, nI_clamp (n := 10 * i + x) (by omega), ex]
      refine pk_le x 0 (fun z => nm_r (nI_1 i) (ih (i + 1) (by omega) ?_)) (fun z => ⟨vp_in_nI hi5 (by omega), vp_in_nI (by omega) (by omega), br_c (fun y => h0 ?_ _) (fun y => nm_r (nI_1 i) (ih (i + 1) (by omega) ?_))⟩) rfl rfl (by omega) (by omega)
      · intro p hp
        by_cases q : p = i
        · subst q; exact fun w => absurd (show aK p = 0 by rw [ex, show x = 0 by omega]; rfl) w
        · exact hj p (by omega)
      · intro q
        have := q.1 i hi5 (by rw [ex]; exact nI_ne0 z (by omega))
        rw [et] at this
        exact this y
      · intro p hp
        by_cases q : p = i
        · subst q; rw [et]; exact fun _ => y
        · exact hj p (by omega)
  have k0 := key 5 0 rfl (fun p hp => absurd hp (Nat.not_lt_zero _))
  rw [pd_cp0] at k0
  exact ⟨6, k0⟩
theorem yp_lk {post : Int32 → SY → Prop} (h9 : pd_9 aL) (h : ∀ c, post (nI (pd_n aL 5)) (fw, fp, 1, fk, yN, fg, yO, aO, aP, aD, aN, aT, aR, aH, aW, aG, yA, yM, c, aL, pd_cp aK aL 5, aU, aE, yR)) : ∃ n17 : Nat, wY_lock_17 post fw fp 1 fk yN fg yO n17 0 aO aP aD aN aT aR aH aW aG yA yM yC aL aK aU aE yR := by
  have key : ∀ g i, i + g = 5 → wY_lock_17 post fw fp 1 fk yN fg yO (g + 1) (nI i) aO aP aD aN aT aR aH aW aG yA yM (pd_cp yC aL i) aL (pd_cp aK aL i) aU aE yR := by
    intro g
    induction g with
    | zero =>
      intro i hi
      have e : i = 5 := by omega
      subst e
      refine br_t (by decide) (yp_sz (pd_9cp h9) ?_)
      rw [pd_nc (c := pd_cp yC aL 5) (c' := aL) 5 (fun p hp => pd_cpe hp)]
      exact h _
    | succ g ih =>
      intro i hi
      have hi5 : i < 5 := by omega
      have hv := vp_in_nI (n := i) (N := 5) hi5 (by omega)
      refine br_f (lt5' i hi5) ⟨hv, hv, ?_⟩
      rw [nI_clamp (n := i) (by omega), pd_cps, pd_cps]
      exact nm_e ⟨hv, hv, nm_e (nm_r (nI_1 i) (ih (i + 1) (by omega)))⟩
  have k0 := key 5 0 rfl
  rw [pd_cp0, pd_cp0] at k0
  exact ⟨6, k0⟩
theorem yp_ru {post : Int32 → SY → Prop} (h : post 10 (fw, 1, fl, fk, yN, fg, yO, aO, aP, aD, aN, aT, aR, aH, aW, aG, yA, yM, yC, pd_cp aL aK 5, aK, aU, aE, yR)) : ∃ n26 : Nat, wY_reuse_26 post fw 1 fl fk yN fg yO n26 0 aO aP aD aN aT aR aH aW aG yA yM yC aL aK aU aE yR := by
  have key : ∀ g i, i + g = 5 → wY_reuse_26 post fw 1 fl fk yN fg yO (g + 1) (nI i) aO aP aD aN aT aR aH aW aG yA yM yC (pd_cp aL aK i) aK aU aE yR := by
    intro g
    induction g with
    | zero =>
      intro i hi
      have e : i = 5 := by omega
      subst e
      exact br_t (by decide) h
    | succ g ih =>
      intro i hi
      have hi5 : i < 5 := by omega
      have hv := vp_in_nI (n := i) (N := 5) hi5 (by omega)
      refine br_f (lt5' i hi5) ⟨hv, hv, ?_⟩
      rw [nI_clamp (n := i) (by omega), pd_cps]
      exact nm_e (nm_r (nI_1 i) (ih (i + 1) (by omega)))
  have k0 := key 5 0 rfl
  rw [pd_cp0] at k0
  exact ⟨6, k0⟩
end
theorem i_vc_solve {k : Nat} {u : SX} {v : SY} (I : i_Rel k u v) (hk : k + 5 ≤ 2560) : wpX_solve (fun r u' => wpY_solve (fun r' v' => r' = r ∧ i_Rel (k + 5) u' v') v) u := by
  obtain ⟨fw, fp, fl, fk, fc, fg, yN, yO, aV, aO, aP, aD, aN, aT, aR, aH, aW, aG, aL, aK, aU, aE, tA, tM, tB, tO, tS, yA, yM, yC, yR, rfl, rfl, ⟨w, kn, c, g, ew, hw, ek, ec, eg, hgk, en, hG, hI, hI2, h4, hV, h9, hK⟩⟩ := I
  obtain ⟨j, hj, hN, hF⟩ := gr_nxe (fun i => pd_Q w aP aD aN aT aR aH aW aG (pd_ci aO i)) (pd_T aO)
  refine xp_solve ew hw hI h4 hV hj hN hF (fun z t => ?_) (fun z t => ?_)
  · exact yp_solve ew hw hI h4 hj hN hF (fun _ a m c => ⟨rfl, pd_mk ew hw ek ec eg (by omega) en hG hI hI2 h4 hV h9 hK⟩) (fun z2 => absurd z2 (by omega))
  · exact yp_solve ew hw hI h4 hj hN hF (fun z2 => absurd z (by omega)) (fun _ a m c => ⟨rfl, pd_mk ew hw ek ec eg (by omega) en hG hI hI2 h4 hV (pd_9cp (pd_ci9 aO j)) hK⟩)
theorem i_vc_chosen {k : Nat} {u : SX} {v : SY} (I : i_Rel k u v) (hk : k + 5 ≤ 2560) (v1 : Int32) : wpX_chosen (fun r => wpY_chosen (fun r' => r' = r ∧ i_Rel (k + 5) u v) v v1) u v1 := by
  obtain ⟨fw, fp, fl, fk, fc, fg, yN, yO, aV, aO, aP, aD, aN, aT, aR, aH, aW, aG, aL, aK, aU, aE, tA, tM, tB, tO, tS, yA, yM, yC, yR, rfl, rfl, ⟨w, kn, c, g, ew, hw, ek, ec, eg, hgk, en, hG, hI, hI2, h4, hV, h9, hK⟩⟩ := I
  have R0 : i_Rel (k + 5) (fw, fp, fl, fk, fc, fg, aV, aO, aP, aD, aN, aT, aR, aH, aW, aG, aL, aK, aU, aE, tA, tM, tB, tO, tS) (fw, fp, fl, fk, yN, fg, yO, aO, aP, aD, aN, aT, aR, aH, aW, aG, yA, yM, yC, aL, aK, aU, aE, yR) := pd_mk ew hw ek ec eg (by omega) en hG hI hI2 h4 hV h9 hK
  unfold wpX_chosen
  rcases pd_pk v1 with hp | ⟨p, hp, rfl⟩
  · refine xp_pk0 hp (br_t rfl ?_)
    unfold wpY_chosen
    exact yp_pk0 hp (br_t rfl ⟨rfl, R0⟩)
  · have hv := vp_in_nI (n := p) (N := 5) hp (by omega)
    refine xp_pk1 hp (br_f (by decide) (br_c (fun z => ?_) (fun z => ⟨hv, ?_⟩)))
    · unfold wpY_chosen
      exact yp_pk1 hp (br_f (by decide) (br_t z ⟨rfl, R0⟩))
    · unfold wpY_chosen
      exact yp_pk1 hp (br_f (by decide) (br_f z ⟨hv, rfl, R0⟩))
theorem i_vc_solutions {k : Nat} {u : SX} {v : SY} (I : i_Rel k u v) (hk : k + 5 ≤ 2560) : wpX_solutions (fun r u' => wpY_solutions (fun r' v' => r' = r ∧ i_Rel (k + 5) u' v') v) u := by
  obtain ⟨fw, fp, fl, fk, fc, fg, yN, yO, aV, aO, aP, aD, aN, aT, aR, aH, aW, aG, aL, aK, aU, aE, tA, tM, tB, tO, tS, yA, yM, yC, yR, rfl, rfl, ⟨w, kn, c, g, ew, hw, ek, ec, eg, hgk, en, hG, hI, hI2, h4, hV, h9, hK⟩⟩ := I
  exact xp_sols ew hw hI h4 hV (fun t => yp_sols ew hw hI h4 (fun a m c => ⟨rfl, pd_mk ew hw ek ec eg (by omega) en hG hI hI2 h4 hV h9 hK⟩))
theorem i_vc_possible {k : Nat} {u : SX} {v : SY} (I : i_Rel k u v) (hk : k + 5 ≤ 2560) (v1 : Int32) (v2 : Int32) : wpX_possible (fun r u' => wpY_possible (fun r' v' => r' = r ∧ i_Rel (k + 5) u' v') v v1 v2) u v1 v2 := by
  obtain ⟨fw, fp, fl, fk, fc, fg, yN, yO, aV, aO, aP, aD, aN, aT, aR, aH, aW, aG, aL, aK, aU, aE, tA, tM, tB, tO, tS, yA, yM, yC, yR, rfl, rfl, ⟨w, kn, c, g, ew, hw, ek, ec, eg, hgk, en, hG, hI, hI2, h4, hV, h9, hK⟩⟩ := I
  have R0 : i_Rel (k + 5) (fw, fp, fl, fk, fc, fg, aV, aO, aP, aD, aN, aT, aR, aH, aW, aG, aL, aK, aU, aE, tA, tM, tB, tO, tS) (fw, fp, fl, fk, yN, fg, yO, aO, aP, aD, aN, aT, aR, aH, aW, aG, yA, yM, yC, aL, aK, aU, aE, yR) := pd_mk ew hw ek ec eg (by omega) en hG hI hI2 h4 hV h9 hK
  unfold wpX_possible
  rcases pd_pk v1 with hp | ⟨p, hp, rfl⟩
  · refine xp_pk0 hp (br_t rfl ?_)
    unfold wpY_possible
    exact yp_pk0 hp (br_t rfl ⟨rfl, R0⟩)
  by_cases h0 : v2 < 0
  · refine xp_pk1 hp (br_f (by decide) (br_t h0 ?_))
    unfold wpY_possible
    exact yp_pk1 hp (br_f (by decide) (br_t h0 ⟨rfl, R0⟩))
  by_cases h9' : v2 ≤ 9
  case neg =>
    refine xp_pk1 hp (br_f (by decide) (br_f h0 (br_f h9' ?_)))
    unfold wpY_possible
    exact yp_pk1 hp (br_f (by decide) (br_f h0 (br_f h9' ⟨rfl, R0⟩)))
  obtain ⟨v, hv, rfl⟩ := nI_of2 (n := 9) (by decide) h0 h9'
  obtain ⟨j, hj, hN, hF⟩ := gr_nxe (fun i => pd_ci aO i p = nI v ∧ pd_Q w aP aD aN aT aR aH aW aG (pd_ci aO i)) (pd_T aO)
  refine xp_pk1 hp (br_f (by decide) (br_f h0 (br_t h9' (xp_cc hV (xp_st (fun t ht => ⟨_, xp_pos hp hv ew hw hI h4 hj hN hF (fun z t => ?_) (fun z t => ?_) j 0 (by omega) t ht⟩))))))
  · unfold wpY_possible
    exact yp_pk1 hp (br_f (by decide) (br_f h0 (br_t h9' (yp_list h4 (fun a m hO => ⟨_, yp_pos hO hp hv ew hw hI h4 hj hN hF (fun _ c => ⟨rfl, pd_mk ew hw ek ec eg (by omega) en hG hI hI2 h4 hV h9 hK⟩) (fun z2 => absurd z2 (by omega)) j 0 (by omega) yC⟩)))))
  · unfold wpY_possible
    exact yp_pk1 hp (br_f (by decide) (br_f h0 (br_t h9' (yp_list h4 (fun a m hO => ⟨_, yp_pos hO hp hv ew hw hI h4 hj hN hF (fun z2 => absurd z (by omega)) (fun _ c => ⟨rfl, pd_mk ew hw ek ec eg (by omega) en hG hI hI2 h4 hV h9 hK⟩) j 0 (by omega) yC⟩)))))
theorem i_vc_blame {k : Nat} {u : SX} {v : SY} (I : i_Rel k u v) (hk : k + 5 ≤ 2560) : wpX_blame (fun r u' => wpY_blame (fun r' v' => r' = r ∧ i_Rel (k + 5) u' v') v) u := by
  obtain ⟨fw, fp, fl, fk, fc, fg, yN, yO, aV, aO, aP, aD, aN, aT, aR, aH, aW, aG, aL, aK, aU, aE, tA, tM, tB, tO, tS, yA, yM, yC, yR, rfl, rfl, ⟨w, kn, c, g, ew, hw, ek, ec, eg, hgk, en, hG, hI, hI2, h4, hV, h9, hK⟩⟩ := I
  refine xp_blame ew hw hI h4 hV (fun hC t M => ?_) (fun hC r hr t M => ?_)
  · exact yp_blame ew hw hI h4 (fun _ a m c => ⟨rfl, pd_mk ew hw ek ec eg (by omega) en hG hI hI2 h4 hV h9 hK⟩) (fun z => absurd hC z)
  · exact yp_blame ew hw hI h4 (fun z => absurd z hC) (fun _ r' hr' a m c => ⟨by rw [pd_Beu hr hr'], pd_mk ew hw ek ec eg (by omega) en hG hI hI2 h4 hV h9 hK⟩)
theorem i_vc_lock {k : Nat} {u : SX} {v : SY} (I : i_Rel k u v) (hk : k + 5 ≤ 2560) : wpX_lock (fun r u' => wpY_lock (fun r' v' => r' = r ∧ i_Rel (k + 5) u' v') v) u := by
  obtain ⟨fw, fp, fl, fk, fc, fg, yN, yO, aV, aO, aP, aD, aN, aT, aR, aH, aW, aG, aL, aK, aU, aE, tA, tM, tB, tO, tS, yA, yM, yC, yR, rfl, rfl, ⟨w, kn, c, g, ew, hw, ek, ec, eg, hgk, en, hG, hI, hI2, h4, hV, h9, hK⟩⟩ := I
  have R0 : i_Rel (k + 5) (fw, fp, fl, fk, fc, fg, aV, aO, aP, aD, aN, aT, aR, aH, aW, aG, aL, aK, aU, aE, tA, tM, tB, tO, tS) (fw, fp, fl, fk, yN, fg, yO, aO, aP, aD, aN, aT, aR, aH, aW, aG, yA, yM, yC, aL, aK, aU, aE, yR) := pd_mk ew hw ek ec eg (by omega) en hG hI hI2 h4 hV h9 hK
  refine br_c (fun z => br_t z ⟨rfl, R0⟩) (fun z => xp_cp_planned_lockedIn (xp_cg_lockedIn ?_))
  refine br_f z (yp_lk h9 (fun c => ⟨?_, pd_mk ew hw ek ec eg (by omega) en hG hI hI2 h4 hV h9 (pd_9cp h9)⟩))
  rw [pd_nc (c := pd_cp aK aL 5) (c' := aL) 5 (fun p hp => pd_cpe hp)]
theorem i_vc_locked {k : Nat} {u : SX} {v : SY} (I : i_Rel k u v) (hk : k + 5 ≤ 2560) (v1 : Int32) : wpX_locked (fun r => wpY_locked (fun r' => r' = r ∧ i_Rel (k + 5) u v) v v1) u v1 := by
  obtain ⟨fw, fp, fl, fk, fc, fg, yN, yO, aV, aO, aP, aD, aN, aT, aR, aH, aW, aG, aL, aK, aU, aE, tA, tM, tB, tO, tS, yA, yM, yC, yR, rfl, rfl, ⟨w, kn, c, g, ew, hw, ek, ec, eg, hgk, en, hG, hI, hI2, h4, hV, h9, hK⟩⟩ := I
  have R0 : i_Rel (k + 5) (fw, fp, fl, fk, fc, fg, aV, aO, aP, aD, aN, aT, aR, aH, aW, aG, aL, aK, aU, aE, tA, tM, tB, tO, tS) (fw, fp, fl, fk, yN, fg, yO, aO, aP, aD, aN, aT, aR, aH, aW, aG, yA, yM, yC, aL, aK, aU, aE, yR) := pd_mk ew hw ek ec eg (by omega) en hG hI hI2 h4 hV h9 hK
  unfold wpX_locked
  rcases pd_pk v1 with hp | ⟨p, hp, rfl⟩
  · refine xp_pk0 hp (br_t rfl ?_)
    unfold wpY_locked
    exact yp_pk0 hp (br_t rfl ⟨rfl, R0⟩)
  · have hv := vp_in_nI (n := p) (N := 5) hp (by omega)
    refine xp_pk1 hp (br_f (by decide) (br_c (fun z => ?_) (fun z => ⟨hv, ?_⟩)))
    · unfold wpY_locked
      exact yp_pk1 hp (br_f (by decide) (br_t z ⟨rfl, R0⟩))
    · unfold wpY_locked
      exact yp_pk1 hp (br_f (by decide) (br_f z ⟨hv, rfl, R0⟩))
theorem i_vc_reuse {k : Nat} {u : SX} {v : SY} (I : i_Rel k u v) (hk : k + 5 ≤ 2560) : wpX_reuse (fun r u' => wpY_reuse (fun r' v' => r' = r ∧ i_Rel (k + 5) u' v') v) u := by
  obtain ⟨fw, fp, fl, fk, fc, fg, yN, yO, aV, aO, aP, aD, aN, aT, aR, aH, aW, aG, aL, aK, aU, aE, tA, tM, tB, tO, tS, yA, yM, yC, yR, rfl, rfl, ⟨w, kn, c, g, ew, hw, ek, ec, eg, hgk, en, hG, hI, hI2, h4, hV, h9, hK⟩⟩ := I
  obtain ⟨j, hj, hN, hF⟩ := gr_nxe (fun i => pd_Q w aP aD aN aT aR aH aW aG (pd_ci aO i)) (pd_T aO)
  have both : (∀ (post : Int32 → SY → Prop), (∀ c, wY_reuse_14 post fw fp fl fk yN fg yO aO aP aD aN aT aR aH aW aG yA yM c aL aK aU aE yR) → wpY_reuse post (fw, fp, fl, fk, yN, fg, yO, aO, aP, aD, aN, aT, aR, aH, aW, aG, yA, yM, yC, aL, aK, aU, aE, yR)) → wX_reuse_48 (fun r u' => wpY_reuse (fun r' v' => r' = r ∧ i_Rel (k + 5) u' v') (fw, fp, fl, fk, yN, fg, yO, aO, aP, aD, aN, aT, aR, aH, aW, aG, yA, yM, yC, aL, aK, aU, aE, yR)) fw fp fl fk fc fg aV aO aP aD aN aT aR aH aW aG aL aK aU aE tA tM tB tO tS := by
    intro hy
    unfold wX_reuse_48
    refine xp_solve ew hw hI h4 hV hj hN hF (fun z t => ?_) (fun z t => ?_)
    · refine hy _ (fun c => ?_)
      unfold wY_reuse_14
      exact yp_solve ew hw hI h4 hj hN hF (fun _ a m c => ⟨rfl, pd_mk ew hw ek ec eg (by omega) en hG hI hI2 h4 hV h9 hK⟩) (fun z2 => absurd z2 (by omega))
    · refine hy _ (fun c => ?_)
      unfold wY_reuse_14
      exact yp_solve ew hw hI h4 hj hN hF (fun z2 => absurd z (by omega)) (fun _ a m c => ⟨rfl, pd_mk ew hw ek ec eg (by omega) en hG hI hI2 h4 hV (pd_9cp (pd_ci9 aO j)) hK⟩)
  by_cases hl : fl = 0
  · exact br_t hl (both (fun post h => br_t hl (h yC)))
  by_cases hB : pd_Ix aO aK ∧ pd_Q w aP aD aN aT aR aH aW aG aK
  · refine br_f hl (xp_ii hK (fun _ => br_f (by decide) (xp_sol_lockedIn ew hw hI hK (fun _ => br_f (by decide) (xp_cp_lockedIn_planned ?_)) (fun q => absurd hB.2 q))) (fun q => absurd hB.1 q))
    refine br_f hl (yp_lh ew hw hI hK (fun _ c => br_f (by decide) (yp_ru ⟨rfl, ?_⟩)) (fun q => absurd hB q))
    exact pd_mk ew hw ek ec eg (by omega) en hG hI hI2 h4 hV (pd_9cp hK) hK
  · have b := both (fun post h => br_f hl (yp_lh ew hw hI hK (fun q => absurd q hB) (fun _ c => br_t rfl (h c))))
    refine br_f hl (xp_ii hK (fun a => br_f (by decide) (xp_sol_lockedIn ew hw hI hK (fun q => absurd ⟨a, q⟩ hB) (fun _ => br_t rfl b))) (fun _ => br_t rfl b))
