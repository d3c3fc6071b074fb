/-! steps, step, apply, current, version, rollback, collect -/
section
variable {fw fp fl fk fc fg yN yO : Int32} {aV aO aP aD aN aT aR aH aW aG aL aK aU aE tA tM tB tO tS yA yM yC yR : Nat → Int32}
theorem pd_SL10 {cu : Nat → Int32} : (pd_SL cu aL (gr_st (pd_R aO aD aN aT aL) (pd_U aL) 5).2).length ≤ 10 := by
  have hV := pd_RU (aO := aO) (aD := aD) (aN := aN) (aT := aT) (aL := aL)
  have a := gr_len hV 5
  have b := pd_rml cu aL 5
  have c := pd_pll cu aL (gr_st (pd_R aO aD aN aT aL) (pd_U aL) 5).2 (gr_st (pd_R aO aD aN aT aL) (pd_U aL) 5).2.length
  unfold pd_SL
  rw [List.length_append]
  omega
theorem xy_ap {kn c g : Nat} (ek : fk = nI kn) (ec : fc = nI c) (eg : fg = nI g) (hg : g < 2 ^ 31) (en : yN = aU c) (hG : pd_GI kn c g aU aE) : ∃ (kn' c' : Nat) (U E : Nat → Int32), kn' ≤ 5 ∧ pd_GI kn' c' g U E ∧
    (∀ (post : Int32 → SX → Prop) (tB tO tS : Nat → Int32), post (nI (g + 1)) (fw, fp, fl, nI (kn' + 1), nI kn', nI (g + 1), aV, aO, aP, aD, aN, aT, aR, aH, aW, aG, aL, aK, upd U kn' (nI (g + 1)), pd_kp E (5 * kn') aL 5, tA, tM, tB, tO, tS) → wX_apply_41 post fw fp fl fk fc fg aV aO aP aD aN aT aR aH aW aG aL aK aU aE tA tM tB tO tS) ∧
    (∀ (post : Int32 → SY → Prop), post (nI (g + 1)) (fw, fp, fl, nI (kn' + 1), nI (g + 1), nI (g + 1), yO, aO, aP, aD, aN, aT, aR, aH, aW, aG, yA, yM, yC, aL, aK, upd U kn' (nI (g + 1)), pd_kp E (5 * kn') aL 5, yR) → wY_apply_36 post fw fp fl fk yN fg yO aO aP aD aN aT aR aH aW aG yA yM yC aL aK aU aE yR) := by
  have h6 := hG.2.1
  have hc := hG.2.2.1
  by_cases z : kn = 6
  · subst z
    have hX : ¬ fk < 6 := by rw [ek]; decide
    have hY : fk = 6 := by rw [ek]; rfl
    by_cases y : c = 0
    · subst y
      refine ⟨5, _, _, _, by omega, pd_GIdr hG (d := 1) (by omega) (by omega), ?_, ?_⟩
      · intro post tB tO tS hp
        refine br_f hX (br_t (by rw [ec]; rfl) ?_)
        unfold wX_apply_63
        refine xp_dr (d := 1) ek (by omega) ec hc (by omega) ?_
        unfold wX_apply_66
        exact xp_kp rfl (by omega) eg hp
      · intro post hp
        refine br_t hY (br_t en.symm ?_)
        unfold wY_apply_64
        refine yp_dr (d := 1) ek (by omega) (by omega) ?_
        exact yp_kp rfl (by omega) eg hp
    · refine ⟨5, _, _, _, by omega, pd_GIdr hG (d := 0) (by omega) (fun q => y q.symm), ?_, ?_⟩
      · intro post tB tO tS hp
        refine br_f hX (br_f (by rw [ec]; exact nI_ne0 (by omega) (by omega)) ?_)
        unfold wX_apply_63
        refine xp_dr (d := 0) ek (by omega) ec hc (by omega) ?_
        unfold wX_apply_66
        exact xp_kp rfl (by omega) eg hp
      · intro post hp
        refine br_t hY (br_f (fun q => y (pd_GIu hG hg (i := 0) (by omega) hc (q.trans en)).symm) ?_)
        unfold wY_apply_64
        refine yp_dr (d := 0) ek (by omega) (by omega) ?_
        exact yp_kp rfl (by omega) eg hp
  · refine ⟨kn, c, aU, aE, by omega, hG, ?_, ?_⟩
    · intro post tB tO tS hp
      refine br_t (by rw [ek]; exact nI_lt (b := 6) (by omega) (by decide)) ?_
      unfold wX_apply_66
      exact xp_kp ek (by omega) eg hp
    · intro post hp
      refine br_f (by rw [ek]; exact fun q => z ((nI_eq (b := 6) (by omega) (by omega)).mp q)) ?_
      exact yp_kp ek (by omega) eg hp
def pd_df (a b : Nat → Int32) : Nat → Nat
  | 0 => 0
  | p + 1 => if a p = b p then pd_df a b p else pd_df a b p + 1
theorem xp_rb {post : Int32 → SX → Prop} {c i : Nat} (ec : fc = nI c) (hc : c < 6) (hi : i < 6) (h : post (nI (pd_df (pd_cu aE i) (pd_cu aE c) 5)) (fw, fp, fl, fk, nI i, fg, aV, aO, aP, aD, aN, aT, aR, aH, aW, aG, aL, aK, aU, aE, tA, tM, tB, tO, tS)) : ∃ n18 : Nat, wX_rollback_18 post (nI i) fw fp fl fk fc fg aV aO aP aD aN aT aR aH aW aG aL aK aU aE tA tM tB tO tS n18 0 0 := by
  have key : ∀ g q, q + g = 5 → wX_rollback_18 post (nI i) fw fp fl fk fc fg aV aO aP aD aN aT aR aH aW aG aL aK aU aE tA tM tB tO tS (g + 1) (nI (pd_df (pd_cu aE i) (pd_cu aE c) q)) (nI q) := by
    intro g
    induction g with
    | zero =>
      intro q hq
      have e : q = 5 := by omega
      subst e
      exact br_t (by decide) h
    | succ g ih =>
      intro q hq
      have hq5 : q < 5 := by omega
      have i2 := ih (q + 1) (by omega)
      rw [pd_df] at i2
      refine br_f (lt5' q hq5) ?_
      rw [pd_l5, nI_clamp (n := 5 * i + q) (by omega)]
      refine ⟨vp_in_nI (by omega) (by omega), xp_cv ec hc hq5 (br_c (fun z => nm_r (nI_1 q) ?_) (fun z => nm_r (nI_1 _) (nm_r (nI_1 q) ?_)))⟩
      · rw [if_pos (show pd_cu aE i q = pd_cu aE c q from z)] at i2
        exact i2
      · rw [if_neg (show ¬ pd_cu aE i q = pd_cu aE c q from z)] at i2
        exact i2
  exact ⟨6, key 5 0 rfl⟩
theorem yp_rb {post : Int32 → SY → Prop} {x : Int32} {kn c g i : Nat} (ek : fk = nI kn) (hG : pd_GI kn c g aU aE) (hg : g < 2 ^ 31) (en : yN = aU c) (hi : i < 6) (h : post (nI (pd_df (pd_cu aE i) (pd_cu aE c) 5)) (fw, fp, fl, fk, x, fg, yO, aO, aP, aD, aN, aT, aR, aH, aW, aG, yA, yM, yC, aL, aK, aU, aE, yR)) : ∃ n18 : Nat, wY_rollback_18 post x (nI i) fw fp fl fk yN fg yO aO aP aD aN aT aR aH aW aG yA yM yC aL aK aU aE yR n18 0 0 := by
  have key : ∀ g' q, q + g' = 5 → wY_rollback_18 post x (nI i) fw fp fl fk yN fg yO aO aP aD aN aT aR aH aW aG yA yM yC aL aK aU aE yR (g' + 1) (nI (pd_df (pd_cu aE i) (pd_cu aE c) q)) (nI q) := by
    intro g'
    induction g' with
    | zero =>
      intro q hq
      have e : q = 5 := by omega
      subst e
      exact br_t (by decide) h
    | succ g' ih =>
      intro q hq
      have hq5 : q < 5 := by omega
      have i2 := ih (q + 1) (by omega)
      rw [pd_df] at i2
      refine br_f (lt5' q hq5) ?_
      rw [pd_l5, nI_clamp (n := 5 * i + q) (by omega)]
      refine ⟨vp_in_nI (by omega) (by omega), yp_gv ek hG hg en hq5 (br_c (fun z => nm_r (nI_1 q) ?_) (fun z => nm_r (nI_1 _) (nm_r (nI_1 q) ?_)))⟩
      · rw [if_pos (show pd_cu aE i q = pd_cu aE c q from z)] at i2
        exact i2
      · rw [if_neg (show ¬ pd_cu aE i q = pd_cu aE c q from z)] at i2
        exact i2
  exact ⟨6, key 5 0 rfl⟩
theorem pd_GIc {kn c i g : Nat} (hG : pd_GI kn c g aU aE) (hi : i < kn) : pd_GI kn i g aU aE := ⟨hG.1, hG.2.1, hi, hG.2.2.2⟩
theorem xy_cl {n0 g : Nat} (hg : g < 2 ^ 31) : ∀ s kn c (U E : Nat → Int32) x3, s + 1 ≤ kn → kn ≤ n0 → pd_GI kn c g U E → yN = U c → (s = 0 → x3 < 0) → (∀ t, s = t + 1 → x3 = nI t) → ∃ (kn' c' : Nat) (U' E' : Nat → Int32), kn' ≤ n0 ∧ pd_GI kn' c' g U' E' ∧ yN = U' c' ∧
    (∀ (post : Int32 → SX → Prop), post (nI n0 - nI kn') (fw, fp, fl, nI kn', nI c', fg, aV, aO, aP, aD, aN, aT, aR, aH, aW, aG, aL, aK, U', E', tA, tM, tB, tO, tS) → wX_collect_24 post (nI n0) (s + 1) x3 fw fp fl (nI kn) (nI c) fg aV aO aP aD aN aT aR aH aW aG aL aK U E tA tM tB tO tS) ∧
    (∀ (post : Int32 → SY → Prop), post (nI (n0 - kn')) (fw, fp, fl, nI kn', yN, fg, yO, aO, aP, aD, aN, aT, aR, aH, aW, aG, yA, yM, yC, aL, aK, U', E', yR) → wY_collect_24 post (s + 1) (nI (n0 - kn)) x3 fw fp fl (nI kn) yN fg yO aO aP aD aN aT aR aH aW aG yA yM yC aL aK U E yR) := by
  intro s
  induction s with
  | zero =>
    intro kn c U E x3 hs hn hG en e _
    exact ⟨kn, c, U, E, hn, hG, en, fun post hp => br_t (e rfl) hp, fun post hp => br_t (e rfl) hp⟩
  | succ s ih =>
    intro kn c U E x3 hs hn hG en _ e
    have h6 := hG.2.1
    have hc := hG.2.2.1
    have ex := e s rfl
    subst ex
    have hsp : ¬ nI s < 0 := nI_pos (by omega)
    have z0 : s = 0 → nI s + (-1) < 0 := by intro z; subst z; decide
    have z1 : ∀ t, s = t + 1 → nI s + (-1) = nI t := by intro t z; subst z; exact pk_m1 t
    by_cases z : s = c
    · subst z
      obtain ⟨kn', c', U', E', a1, a2, a3, a4, a5⟩ := ih kn s U E (nI s + (-1)) (by omega) hn hG en z0 z1
      refine ⟨kn', c', U', E', a1, a2, a3, fun post hp => br_f hsp (br_t rfl (nm_e (a4 post hp))), fun post hp => br_f hsp ⟨vp_in_nI (by omega) (by omega), ?_⟩⟩
      rw [nI_clamp (n := s) (by omega)]
      exact br_t en.symm (nm_e (a5 post hp))
    · obtain ⟨kn', c', U', E', a1, a2, a3, a4, a5⟩ := ih (kn - 1) (if c ≤ s then c else c - 1) (pd_sv U s (kn - 1) 1) (pd_sv E (5 * s) (5 * (kn - 1)) 5) (nI s + (-1)) (by omega) (by omega) (pd_GIdr hG (by omega) z) (by rw [pd_Udr hc (by omega) z]; exact en) z0 z1
      refine ⟨kn', c', U', E', a1, a2, a3, fun post hp => br_f hsp (br_f (fun q => z ((nI_eq (by omega) (by omega)).mp q)) ?_), fun post hp => br_f hsp ⟨vp_in_nI (by omega) (by omega), ?_⟩⟩
      · exact xp_dr rfl h6 rfl hc (by omega) (nm_e (a4 post hp))
      · rw [nI_clamp (n := s) (by omega)]
        refine br_f (fun q => z (pd_GIu hG hg (by omega) hc (q.trans en))) (yp_dr rfl h6 (by omega) (nm_r (e' := nI (n0 - (kn - 1))) ?_ (nm_e (a5 post hp))))
        rw [nI_1, show n0 - kn + 1 = n0 - (kn - 1) by omega]
end
theorem i_vc_steps {k : Nat} {u : SX} {v : SY} (I : i_Rel k u v) (hk : k + 5 ≤ 2560) : wpX_steps (fun r u' => wpY_steps (fun r' => r' = r ∧ i_Rel (k + 5) u' v) v) u := by
  obtain ⟨fw, fp, fl, fk, fc, fg, yN, yO, aV, aO, aP, aD, aN, aT, aR, aH, aW, aG, aL, aK, aU, aE, tA, tM, tB, tO, tS, yA, yM, yC, yR, rfl, rfl, ⟨w, kn, c, g, ew, hw, ek, ec, eg, hgk, en, hG, hI, hI2, h4, hV, h9, hK⟩⟩ := I
  have R0 : i_Rel (k + 5) (fw, fp, fl, fk, fc, fg, aV, aO, aP, aD, aN, aT, aR, aH, aW, aG, aL, aK, aU, aE, tA, tM, tB, tO, tS) (fw, fp, fl, fk, yN, fg, yO, aO, aP, aD, aN, aT, aR, aH, aW, aG, yA, yM, yC, aL, aK, aU, aE, yR) := pd_mk ew hw ek ec eg (by omega) en hG hI hI2 h4 hV h9 hK
  have hc6 : c < 6 := by have := hG.2.1; have := hG.2.2.1; omega
  refine br_c (fun z => br_t z ⟨rfl, R0⟩) (fun z => xp_ls ec hc6 hI hI2 h9 (fun b o s hs => ?_))
  refine yp_stp z ek hG (by omega) en h9 ⟨?_, pd_mk ew hw ek ec eg (by omega) en hG hI hI2 h4 hV h9 hK⟩
  rw [pd_SLl]
theorem i_vc_step {k : Nat} {u : SX} {v : SY} (I : i_Rel k u v) (hk : k + 5 ≤ 2560) (v1 : Int32) : wpX_step (fun r u' => wpY_step (fun r' v' => r' = r ∧ i_Rel (k + 5) u' v') v v1) u v1 := by
  obtain ⟨fw, fp, fl, fk, fc, fg, yN, yO, aV, aO, aP, aD, aN, aT, aR, aH, aW, aG, aL, aK, aU, aE, tA, tM, tB, tO, tS, yA, yM, yC, yR, rfl, rfl, ⟨w, kn, c, g, ew, hw, ek, ec, eg, hgk, en, hG, hI, hI2, h4, hV, h9, hK⟩⟩ := I
  have R0 : i_Rel (k + 5) (fw, fp, fl, fk, fc, fg, aV, aO, aP, aD, aN, aT, aR, aH, aW, aG, aL, aK, aU, aE, tA, tM, tB, tO, tS) (fw, fp, fl, fk, yN, fg, yO, aO, aP, aD, aN, aT, aR, aH, aW, aG, yA, yM, yC, aL, aK, aU, aE, yR) := pd_mk ew hw ek ec eg (by omega) en hG hI hI2 h4 hV h9 hK
  have hc6 : c < 6 := by have := hG.2.1; have := hG.2.2.1; omega
  refine br_c (fun z => br_t z ⟨rfl, R0⟩) (fun z => xp_ls ec hc6 hI hI2 h9 (fun b o s hs => ?_))
  have R1 : ∀ o' a', i_Rel (k + 5) (fw, fp, fl, fk, fc, fg, aV, aO, aP, aD, aN, aT, aR, aH, aW, aG, aL, aK, aU, aE, tA, tM, b, o, s) (fw, fp, fl, fk, yN, fg, o', aO, aP, aD, aN, aT, aR, aH, aW, aG, yA, yM, yC, aL, aK, aU, aE, a') := fun o' a' => pd_mk ew hw ek ec eg (by omega) en hG hI hI2 h4 hV h9 hK
  by_cases h0 : v1 < 0
  · exact br_t h0 (br_f z (br_t h0 ⟨rfl, R1 yO yR⟩))
  · obtain ⟨j, hj, rfl⟩ := nI_of h0
    have h10 := pd_SL10 (aO := aO) (aD := aD) (aN := aN) (aT := aT) (aL := aL) (cu := pd_cu aE c)
    refine br_f h0 (pk_le (pd_SL (pd_cu aE c) aL (gr_st (pd_R aO aD aN aT aL) (pd_U aL) 5).2).length j (fun hle => ?_) (fun hlt => ⟨vp_in_nI (by omega) (by omega), ?_⟩) rfl rfl (by omega) hj)
    · refine br_f z (br_f h0 (yp_sa hj ek hG (by omega) en hI h9 (fun o' a' => ⟨?_, R1 o' a'⟩)))
      rw [pd_gout hle]
    · refine br_f z (br_f h0 (yp_sa hj ek hG (by omega) en hI h9 (fun o' a' => ⟨?_, R1 o' a'⟩)))
      rw [nI_clamp hj, hs j hlt]
theorem i_vc_apply {k : Nat} {u : SX} {v : SY} (I : i_Rel k u v) (hk : k + 5 ≤ 2560) (v1 : Int32) : wpX_apply (fun r u' => wpY_apply (fun r' v' => r' = r ∧ i_Rel (k + 5) u' v') v v1) u v1 := by
  obtain ⟨fw, fp, fl, fk, fc, fg, yN, yO, aV, aO, aP, aD, aN, aT, aR, aH, aW, aG, aL, aK, aU, aE, tA, tM, tB, tO, tS, yA, yM, yC, yR, rfl, rfl, ⟨w, kn, c, g, ew, hw, ek, ec, eg, hgk, en, hG, hI, hI2, h4, hV, h9, hK⟩⟩ := I
  have R0 : i_Rel (k + 5) (fw, fp, fl, fk, fc, fg, aV, aO, aP, aD, aN, aT, aR, aH, aW, aG, aL, aK, aU, aE, tA, tM, tB, tO, tS) (fw, fp, fl, fk, yN, fg, yO, aO, aP, aD, aN, aT, aR, aH, aW, aG, yA, yM, yC, aL, aK, aU, aE, yR) := pd_mk ew hw ek ec eg (by omega) en hG hI hI2 h4 hV h9 hK
  have hc6 : c < 6 := by have := hG.2.1; have := hG.2.2.1; omega
  obtain ⟨kn', c', U, E, k5, hG', aX, aY⟩ := xy_ap (fw := fw) (fp := fp) (fl := fl) (yO := yO) (aV := aV) (aO := aO) (aP := aP) (aD := aD) (aN := aN) (aT := aT) (aR := aR) (aH := aH) (aW := aW) (aG := aG) (aL := aL) (aK := aK) (tA := tA) (tM := tM) (yA := yA) (yM := yM) (yC := yC) (yR := yR) ek ec eg (by omega) en hG
  have h10 := pd_SL10 (aO := aO) (aD := aD) (aN := aN) (aT := aT) (aL := aL) (cu := pd_cu aE c)
  have hl := pd_SLl (aO := aO) (aD := aD) (aN := aN) (aT := aT) (aL := aL) (pd_cu aE c)
  rw [hl] at h10
  refine br_c (fun z => br_t z ⟨rfl, R0⟩) (fun z => xp_ls ec hc6 hI hI2 h9 (fun b o s hs => ?_))
  rw [hl]
  have R1 : i_Rel (k + 5) (fw, fp, fl, fk, fc, fg, aV, aO, aP, aD, aN, aT, aR, aH, aW, aG, aL, aK, aU, aE, tA, tM, b, o, s) (fw, fp, fl, fk, yN, fg, yO, aO, aP, aD, aN, aT, aR, aH, aW, aG, yA, yM, yC, aL, aK, aU, aE, yR) := pd_mk ew hw ek ec eg (by omega) en hG hI hI2 h4 hV h9 hK
  have R2 : i_Rel (k + 5) (fw, fp, fl, nI (kn' + 1), nI kn', nI (g + 1), aV, aO, aP, aD, aN, aT, aR, aH, aW, aG, aL, aK, upd U kn' (nI (g + 1)), pd_kp E (5 * kn') aL 5, tA, tM, b, o, s) (fw, fp, fl, nI (kn' + 1), nI (g + 1), nI (g + 1), yO, aO, aP, aD, aN, aT, aR, aH, aW, aG, yA, yM, yC, aL, aK, upd U kn' (nI (g + 1)), pd_kp E (5 * kn') aL 5, yR) := pd_mk ew hw rfl rfl rfl (by omega) pk_us.symm (pd_GIkp hG' k5 h9) hI hI2 h4 hV h9 hK
  refine pk_eq (pd_ns (pd_cu aE c) aL 5) 0 (fun e0 => ?_) (fun e0 => ?_) rfl rfl (by omega) (by omega)
  · rw [ec, nI_clamp (n := c) (by omega)]
    rw [ec] at R1
    exact ⟨vp_in_nI hc6 (by omega), br_f z (yp_stp z ek hG (by omega) en h9 (br_t (by rw [e0]; rfl) ⟨en, R1⟩))⟩
  · have e0' : ¬ nI (pd_ns (pd_cu aE c) aL 5) = 0 := nI_ne0 (by omega) (by omega)
    by_cases h0 : v1 < 0
    · exact br_t h0 (aX _ b o s (br_f z (yp_stp z ek hG (by omega) en h9 (br_f e0' (br_t h0 (aY _ ⟨rfl, R2⟩))))))
    · by_cases h1 : nI (pd_ns (pd_cu aE c) aL 5) ≤ v1
      · exact br_f h0 (br_t h1 (aX _ b o s (br_f z (yp_stp z ek hG (by omega) en h9 (br_f e0' (br_f h0 (br_t h1 (aY _ ⟨rfl, R2⟩))))))))
      · exact br_f h0 (br_f h1 (br_f z (yp_stp z ek hG (by omega) en h9 (br_f e0' (br_f h0 (br_f h1 ⟨rfl, R1⟩))))))
theorem i_vc_current {k : Nat} {u : SX} {v : SY} (I : i_Rel k u v) (hk : k + 5 ≤ 2560) : wpX_current (fun r => wpY_current (fun r' => r' = r ∧ i_Rel (k + 5) u v) v) u := by
  obtain ⟨fw, fp, fl, fk, fc, fg, yN, yO, aV, aO, aP, aD, aN, aT, aR, aH, aW, aG, aL, aK, aU, aE, tA, tM, tB, tO, tS, yA, yM, yC, yR, rfl, rfl, ⟨w, kn, c, g, ew, hw, ek, ec, eg, hgk, en, hG, hI, hI2, h4, hV, h9, hK⟩⟩ := I
  have R0 : i_Rel (k + 5) (fw, fp, fl, fk, fc, fg, aV, aO, aP, aD, aN, aT, aR, aH, aW, aG, aL, aK, aU, aE, tA, tM, tB, tO, tS) (fw, fp, fl, fk, yN, fg, yO, aO, aP, aD, aN, aT, aR, aH, aW, aG, yA, yM, yC, aL, aK, aU, aE, yR) := pd_mk ew hw ek ec eg (by omega) en hG hI hI2 h4 hV h9 hK
  have hc6 : c < 6 := by have := hG.2.1; have := hG.2.2.1; omega
  subst ec
  refine ⟨vp_in_nI hc6 (by omega), ?_⟩
  rw [nI_clamp (n := c) (by omega)]
  exact ⟨en, R0⟩
theorem i_vc_version {k : Nat} {u : SX} {v : SY} (I : i_Rel k u v) (hk : k + 5 ≤ 2560) (v1 : Int32) (v2 : Int32) : wpX_version (fun r => wpY_version (fun r' => r' = r ∧ i_Rel (k + 5) u v) v v1 v2) u v1 v2 := by
  obtain ⟨fw, fp, fl, fk, fc, fg, yN, yO, aV, aO, aP, aD, aN, aT, aR, aH, aW, aG, aL, aK, aU, aE, tA, tM, tB, tO, tS, yA, yM, yC, yR, rfl, rfl, ⟨w, kn, c, g, ew, hw, ek, ec, eg, hgk, en, hG, hI, hI2, h4, hV, h9, hK⟩⟩ := I
  have R0 : i_Rel (k + 5) (fw, fp, fl, fk, fc, fg, aV, aO, aP, aD, aN, aT, aR, aH, aW, aG, aL, aK, aU, aE, tA, tM, tB, tO, tS) (fw, fp, fl, fk, yN, fg, yO, aO, aP, aD, aN, aT, aR, aH, aW, aG, yA, yM, yC, aL, aK, aU, aE, yR) := pd_mk ew hw ek ec eg (by omega) en hG hI hI2 h4 hV h9 hK
  have h6 := hG.2.1
  unfold wpX_version
  rcases pd_pk v2 with hp | ⟨p, hp, rfl⟩
  · refine xp_pk0 hp (br_t rfl ?_)
    unfold wpY_version
    exact yp_pk0 hp (br_t rfl ⟨rfl, R0⟩)
  · refine xp_pk1 hp (br_f (by decide) (xp_slot ek h6 (fun i hi e hf => ?_) (fun hn => ?_)))
    · refine br_f (nI_pos (by omega)) ?_
      rw [pd_l5, nI_clamp (n := 5 * i + p) (by omega)]
      refine ⟨vp_in_nI (by omega) (by omega), ?_⟩
      unfold wpY_version
      refine yp_pk1 hp (br_f (by decide) (yp_place ek h6 (fun i' hi' e' _ => ?_) (fun hn => absurd e (hn i hi))))
      have : i' = i := pd_GIu hG (by omega) hi' hi (e'.trans e.symm)
      subst this
      refine br_t (nI_pos' (by omega)) ?_
      rw [pd_l5, nI_clamp (n := 5 * i' + p) (by omega)]
      exact ⟨vp_in_nI (by omega) (by omega), rfl, R0⟩
    · refine br_t (by decide) ?_
      unfold wpY_version
      exact yp_pk1 hp (br_f (by decide) (yp_place ek h6 (fun i' hi' e' _ => absurd e' (hn i' hi')) (fun _ => br_f (by decide) ⟨rfl, R0⟩)))
theorem i_vc_rollback {k : Nat} {u : SX} {v : SY} (I : i_Rel k u v) (hk : k + 5 ≤ 2560) (v1 : Int32) : wpX_rollback (fun r u' => wpY_rollback (fun r' v' => r' = r ∧ i_Rel (k + 5) u' v') v v1) u v1 := by
  obtain ⟨fw, fp, fl, fk, fc, fg, yN, yO, aV, aO, aP, aD, aN, aT, aR, aH, aW, aG, aL, aK, aU, aE, tA, tM, tB, tO, tS, yA, yM, yC, yR, rfl, rfl, ⟨w, kn, c, g, ew, hw, ek, ec, eg, hgk, en, hG, hI, hI2, h4, hV, h9, hK⟩⟩ := I
  have R0 : i_Rel (k + 5) (fw, fp, fl, fk, fc, fg, aV, aO, aP, aD, aN, aT, aR, aH, aW, aG, aL, aK, aU, aE, tA, tM, tB, tO, tS) (fw, fp, fl, fk, yN, fg, yO, aO, aP, aD, aN, aT, aR, aH, aW, aG, yA, yM, yC, aL, aK, aU, aE, yR) := pd_mk ew hw ek ec eg (by omega) en hG hI hI2 h4 hV h9 hK
  have h6 := hG.2.1
  have hck := hG.2.2.1
  unfold wpX_rollback
  refine xp_slot ek h6 (fun i hi e hf => ?_) (fun hn => ?_)
  · refine br_t (nI_pos' (by omega)) (xp_rb ec (by omega) (by omega) ?_)
    unfold wpY_rollback
    refine yp_place ek h6 (fun i' hi' e' _ => ?_) (fun hn => absurd e (hn i hi))
    have : i' = i := pd_GIu hG (by omega) hi' hi (e'.trans e.symm)
    subst this
    refine br_t (nI_pos' (by omega)) (yp_rb ek hG (by omega) en (by omega) ⟨rfl, ?_⟩)
    exact pd_mk ew hw ek rfl eg (by omega) e.symm (pd_GIc hG hi) hI hI2 h4 hV h9 hK
  · refine br_f (by decide) ?_
    unfold wpY_rollback
    exact yp_place ek h6 (fun i' hi' e' _ => absurd e' (hn i' hi')) (fun _ => br_f (by decide) ⟨rfl, R0⟩)
theorem pd_s2 (a b : Int32) : (a - b) - 1 = a - (b + 1) := by grind
theorem pd_s3 (a b : Int32) : (a - 1) - b = a - (b + 1) := by grind
theorem i_vc_collect {k : Nat} {u : SX} {v : SY} (I : i_Rel k u v) (hk : k + 5 ≤ 2560) (v1 : Int32) : wpX_collect (fun r u' => wpY_collect (fun r' v' => r' = r ∧ i_Rel (k + 5) u' v') v v1) u v1 := by
  obtain ⟨fw, fp, fl, fk, fc, fg, yN, yO, aV, aO, aP, aD, aN, aT, aR, aH, aW, aG, aL, aK, aU, aE, tA, tM, tB, tO, tS, yA, yM, yC, yR, rfl, rfl, ⟨w, kn, c, g, ew, hw, ek, ec, eg, hgk, en, hG, hI, hI2, h4, hV, h9, hK⟩⟩ := I
  have R0 : i_Rel (k + 5) (fw, fp, fl, fk, fc, fg, aV, aO, aP, aD, aN, aT, aR, aH, aW, aG, aL, aK, aU, aE, tA, tM, tB, tO, tS) (fw, fp, fl, fk, yN, fg, yO, aO, aP, aD, aN, aT, aR, aH, aW, aG, yA, yM, yC, aL, aK, aU, aE, yR) := pd_mk ew hw ek ec eg (by omega) en hG hI hI2 h4 hV h9 hK
  have h6 := hG.2.1
  have h1 := hG.1
  by_cases c1 : v1 < 1
  · exact br_t c1 (br_t c1 ⟨rfl, R0⟩)
  by_cases c6 : v1 ≤ 6
  case neg => exact br_f c1 (br_f c6 (br_f c1 (br_f c6 ⟨rfl, R0⟩)))
  have h0 : ¬ v1 < 0 := fun q => c1 (Int32.lt_trans q (by decide))
  obtain ⟨m, hm, rfl⟩ := nI_of2 (n := 6) (by decide) h0 c6
  have hm1 : 1 ≤ m := by
    have : ¬ m < 1 := fun q => c1 (nI_lt (b := 1) q (by decide))
    omega
  have eX : fk - nI m - 1 = nI kn - nI (m + 1) := by rw [ek, pd_s2, nI_1]
  have eY : fk - 1 - nI m = nI kn - nI (m + 1) := by rw [ek, pd_s3, nI_1]
  obtain ⟨kn', c', U', E', a1, a2, a3, a4, a5⟩ := xy_cl (yN := yN) (yO := yO) (n0 := kn) (fw := fw) (fp := fp) (fl := fl) (fg := fg) (aV := aV) (aO := aO) (aP := aP) (aD := aD) (aN := aN) (aT := aT) (aR := aR) (aH := aH) (aW := aW) (aG := aG) (aL := aL) (aK := aK) (tA := tA) (tM := tM) (tB := tB) (tO := tO) (tS := tS) (yA := yA) (yM := yM) (yC := yC) (yR := yR) (g := g) (by omega) (kn - m) kn c aU aE (nI kn - nI (m + 1)) (by omega) (Nat.le_refl _) hG en (fun z => pk_sneg (by omega) (by omega)) (fun t z => by rw [pk_sub (by omega), show kn - (m + 1) = t by omega])
  rw [Nat.sub_self] at a5
  have R1 : i_Rel (k + 5) (fw, fp, fl, nI kn', nI c', fg, aV, aO, aP, aD, aN, aT, aR, aH, aW, aG, aL, aK, U', E', tA, tM, tB, tO, tS) (fw, fp, fl, nI kn', yN, fg, yO, aO, aP, aD, aN, aT, aR, aH, aW, aG, yA, yM, yC, aL, aK, U', E', yR) := pd_mk ew hw rfl rfl eg (by omega) a3 a2 hI hI2 h4 hV h9 hK
  subst ek ec
  exact br_f c1 (br_t c6 (nm_r eX ⟨_, a4 _ (br_f c1 (br_t c6 (nm_r eY ⟨_, a5 _ ⟨(pk_sub a1).symm, R1⟩⟩)))⟩))
