/-! offer, withdraw, demand, wish, unwish -/
theorem i_vc_offer {k : Nat} {u : SX} {v : SY} (I : i_Rel k u v) (hk : k + 5 ≤ 2560) (v1 : Int32) (v2 : Int32) (v3 : Int32) : wpX_offer (fun r u' => wpY_offer (fun r' v' => r' = r ∧ i_Rel (k + 5) u' v') v v1 v2 v3) u v1 v2 v3 := by
  obtain ⟨fw, fp, fl, fk, fc, fg, yN, yO, aV, aO, aP, aD, aN, aT, aR, aH, aW, aG, aL, aK, aU, aE, tA, tM, tB, tO, tS, yA, yM, yC, yR, rfl, rfl, ⟨w, kn, c, g, ew, hw, ek, ec, eg, hgk, en, hG, hI, hI2, h4, hV, h9, hK⟩⟩ := I
  have R0 : i_Rel (k + 5) (fw, fp, fl, fk, fc, fg, aV, aO, aP, aD, aN, aT, aR, aH, aW, aG, aL, aK, aU, aE, tA, tM, tB, tO, tS) (fw, fp, fl, fk, yN, fg, yO, aO, aP, aD, aN, aT, aR, aH, aW, aG, yA, yM, yC, aL, aK, aU, aE, yR) := pd_mk ew hw ek ec eg (by omega) en hG hI hI2 h4 hV h9 hK
  rcases pd_pk v1 with hp | ⟨p, hp, rfl⟩
  · unfold wpX_offer
    refine xp_pk0 hp (br_t rfl ?_)
    unfold wpY_offer
    exact yp_pk0 hp (br_t rfl ⟨rfl, R0⟩)
  rcases pd_ve v2 with hv | ⟨v, hv1, hv9, rfl⟩
  · unfold wpX_offer
    refine xp_pk1 hp (br_f (by decide) (xp_ve0 hv (br_t rfl ?_)))
    unfold wpY_offer
    exact yp_pk1 hp (br_f (by decide) (yp_ve0 hv (br_t rfl ⟨rfl, R0⟩)))
  by_cases h0 : v3 < 0
  · unfold wpX_offer
    refine xp_pk1 hp (br_f (by decide) (xp_ve1 hv1 hv9 (br_f (by decide) (br_t h0 ?_))))
    unfold wpY_offer
    exact yp_pk1 hp (br_f (by decide) (yp_ve1 hv1 hv9 (br_f (by decide) (br_t h0 ⟨rfl, R0⟩))))
  by_cases h2 : v3 ≤ 255
  case neg =>
    unfold wpX_offer
    refine xp_pk1 hp (br_f (by decide) (xp_ve1 hv1 hv9 (br_f (by decide) (br_f h0 (br_f h2 ?_)))))
    unfold wpY_offer
    exact yp_pk1 hp (br_f (by decide) (yp_ve1 hv1 hv9 (br_f (by decide) (br_f h0 (br_f h2 ⟨rfl, R0⟩)))))
  have hl : 10 * p + v < 50 := by omega
  have hc := vp_in_nI (n := 10 * p + v) (N := 50) hl (by omega)
  have hp' := vp_in_nI (n := p) (N := 5) hp (by omega)
  have hlen := h4 p hp
  unfold wpX_offer
  refine xp_pk1 hp (br_f (by decide) (xp_ve1 hv1 hv9 (br_f (by decide) (br_f h0 (br_t h2 (nm_r (pd_l10 p v) ⟨hc, ?_⟩))))))
  rw [nI_clamp (n := 10 * p + v) (by omega), nI_clamp (n := p) (by omega), hV p hp]
  by_cases hz : aO (10 * p + v) = 0
  case neg =>
    refine br_f hz ?_
    unfold wpY_offer
    refine yp_pk1 hp (br_f (by decide) (yp_ve1 hv1 hv9 (br_f (by decide) (br_f h0 (br_t h2 (nm_r (pd_l10 p v) ⟨hc, ?_⟩))))))
    rw [nI_clamp (n := 10 * p + v) (by omega)]
    exact br_f hz ⟨rfl, R0⟩
  refine br_t hz ⟨hp', pk_lt (pd_L aO p).length 4 (fun hlt => ⟨hc, nm_e ⟨hc, nm_e ⟨hc, nm_e ⟨hp', hp', nm_e ⟨hp', ?_⟩⟩⟩⟩⟩) (fun hge => ?_) rfl rfl (by omega) (by omega)⟩
  · unfold wpY_offer
    refine yp_pk1 hp (br_f (by decide) (yp_ve1 hv1 hv9 (br_f (by decide) (br_f h0 (br_t h2 (nm_r (pd_l10 p v) ⟨hc, ?_⟩))))))
    rw [nI_clamp (n := 10 * p + v) (by omega)]
    have hL := pd_Lp (aO := aO) (x := vp_nar .boolean 1) hv1 hv9 hz (by rw [pd_nb1]; decide)
    refine br_t hz (yp_co hp (br_f (by exact fun q => absurd ((nI_eq (b := 4) (by omega) (by omega)).mp q) (by omega)) ⟨hc, nm_e ⟨hc, nm_e ⟨hc, nm_e (yp_co hp ⟨?_, ?_⟩)⟩⟩⟩))
    · rw [hL, pk_us, nI_1]
    · refine pd_mk ew hw ek ec eg (by omega) en hG ⟨?_, hI.2.1, hI.2.2⟩ ?_ ?_ ?_ h9 hK
      · intro c hc50
        by_cases q : c = 10 * p + v
        · subst q; rw [pk_us]; exact ⟨0, by omega, rfl⟩
        · rw [pk_un q]; exact hI.1 c hc50
      · intro c hc50 i hi
        by_cases q : c = 10 * p + v
        · subst q
          rw [pk_us] at hi
          exact absurd hi (Nat.not_lt_zero _)
        · rw [pk_un q] at hi; exact hI2 c hc50 i hi
      · intro q hq
        by_cases z : q = p
        · subst z; rw [hL]; omega
        · rw [pd_Lo hv9 z]; exact h4 q hq
      · intro q hq
        by_cases z : q = p
        · subst z; rw [pk_us, hL, nI_1]
        · rw [pk_un z, pd_Lo hv9 z]; exact hV q hq
  · unfold wpY_offer
    refine yp_pk1 hp (br_f (by decide) (yp_ve1 hv1 hv9 (br_f (by decide) (br_f h0 (br_t h2 (nm_r (pd_l10 p v) ⟨hc, ?_⟩))))))
    rw [nI_clamp (n := 10 * p + v) (by omega)]
    exact br_t hz (yp_co hp (br_t (by rw [show (pd_L aO p).length = 4 by omega]; rfl) ⟨rfl, R0⟩))
theorem i_vc_withdraw {k : Nat} {u : SX} {v : SY} (I : i_Rel k u v) (hk : k + 5 ≤ 2560) (v1 : Int32) (v2 : Int32) : wpX_withdraw (fun r u' => wpY_withdraw (fun r' v' => r' = r ∧ i_Rel (k + 5) u' v') v v1 v2) u v1 v2 := by
  obtain ⟨fw, fp, fl, fk, fc, fg, yN, yO, aV, aO, aP, aD, aN, aT, aR, aH, aW, aG, aL, aK, aU, aE, tA, tM, tB, tO, tS, yA, yM, yC, yR, rfl, rfl, ⟨w, kn, c, g, ew, hw, ek, ec, eg, hgk, en, hG, hI, hI2, h4, hV, h9, hK⟩⟩ := I
  have R0 : i_Rel (k + 5) (fw, fp, fl, fk, fc, fg, aV, aO, aP, aD, aN, aT, aR, aH, aW, aG, aL, aK, aU, aE, tA, tM, tB, tO, tS) (fw, fp, fl, fk, yN, fg, yO, aO, aP, aD, aN, aT, aR, aH, aW, aG, yA, yM, yC, aL, aK, aU, aE, yR) := pd_mk ew hw ek ec eg (by omega) en hG hI hI2 h4 hV h9 hK
  rcases pd_pk v1 with hp | ⟨p, hp, rfl⟩
  · unfold wpX_withdraw
    refine xp_pk0 hp (br_t rfl ?_)
    unfold wpY_withdraw
    exact yp_pk0 hp (br_t rfl ⟨rfl, R0⟩)
  rcases pd_ve v2 with hv | ⟨v, hv1, hv9, rfl⟩
  · unfold wpX_withdraw
    refine xp_pk1 hp (br_f (by decide) (xp_ve0 hv (br_t rfl ?_)))
    unfold wpY_withdraw
    exact yp_pk1 hp (br_f (by decide) (yp_ve0 hv (br_t rfl ⟨rfl, R0⟩)))
  have hl : 10 * p + v < 50 := by omega
  have hc := vp_in_nI (n := 10 * p + v) (N := 50) hl (by omega)
  have hp' := vp_in_nI (n := p) (N := 5) hp (by omega)
  have hlen := h4 p hp
  unfold wpX_withdraw
  refine xp_pk1 hp (br_f (by decide) (xp_ve1 hv1 hv9 (br_f (by decide) (nm_r (pd_l10 p v) ⟨hc, ?_⟩))))
  rw [nI_clamp (n := 10 * p + v) (by omega), nI_clamp (n := p) (by omega), hV p hp]
  by_cases hz : aO (10 * p + v) = 0
  · refine br_t hz ?_
    unfold wpY_withdraw
    refine yp_pk1 hp (br_f (by decide) (yp_ve1 hv1 hv9 (br_f (by decide) ?_)))
    rw [pd_l10, nI_clamp (n := 10 * p + v) (by omega)]
    exact ⟨hc, br_t hz ⟨rfl, R0⟩⟩
  · refine br_f hz ⟨hc, nm_e ⟨hp', hp', nm_e ⟨hp', ?_⟩⟩⟩
    unfold wpY_withdraw
    refine yp_pk1 hp (br_f (by decide) (yp_ve1 hv1 hv9 (br_f (by decide) ?_)))
    rw [pd_l10, nI_clamp (n := 10 * p + v) (by omega)]
    have hL := pd_Lm (aO := aO) (x := vp_nar .boolean 0) hv1 hv9 hz pd_nb0
    have e1 : nI (pd_L aO p).length - 1 = nI (pd_L (upd aO (10 * p + v) (vp_nar .boolean 0)) p).length := by
      rw [hL]; exact pk_sub (b := 1) (by omega)
    refine ⟨hc, br_f hz ⟨hc, nm_e (yp_co hp ⟨?_, ?_⟩)⟩⟩
    · rw [pk_us, e1]
    · refine pd_mk ew hw ek ec eg (by omega) en hG hI hI2 ?_ ?_ h9 hK
      · intro q hq
        by_cases z : q = p
        · subst z; omega
        · rw [pd_Lo hv9 z]; exact h4 q hq
      · intro q hq
        by_cases z : q = p
        · subst z; rw [pk_us, e1]
        · rw [pk_un z, pd_Lo hv9 z]; exact hV q hq
theorem i_vc_demand {k : Nat} {u : SX} {v : SY} (I : i_Rel k u v) (hk : k + 5 ≤ 2560) (v1 : Int32) (v2 : Int32) (v3 : Int32) (v4 : Int32) : wpX_demand (fun r u' => wpY_demand (fun r' v' => r' = r ∧ i_Rel (k + 5) u' v') v (lw_bz v1) v2 v3 v4) u (lw_bz v1) v2 v3 v4 := by
  obtain ⟨fw, fp, fl, fk, fc, fg, yN, yO, aV, aO, aP, aD, aN, aT, aR, aH, aW, aG, aL, aK, aU, aE, tA, tM, tB, tO, tS, yA, yM, yC, yR, rfl, rfl, ⟨w, kn, c, g, ew, hw, ek, ec, eg, hgk, en, hG, hI, hI2, h4, hV, h9, hK⟩⟩ := I
  have R0 : i_Rel (k + 5) (fw, fp, fl, fk, fc, fg, aV, aO, aP, aD, aN, aT, aR, aH, aW, aG, aL, aK, aU, aE, tA, tM, tB, tO, tS) (fw, fp, fl, fk, yN, fg, yO, aO, aP, aD, aN, aT, aR, aH, aW, aG, yA, yM, yC, aL, aK, aU, aE, yR) := pd_mk ew hw ek ec eg (by omega) en hG hI hI2 h4 hV h9 hK
  rcases pk_ix v2 (n := 50) (by omega) with hn | hn | ⟨e, he, rfl⟩
  · unfold wpX_demand wpX_isCell
    refine br_t hn (br_t rfl ?_)
    unfold wpY_demand
    exact br_t hn ⟨rfl, R0⟩
  · have h0 : ¬ v2 < 0 := fun q => absurd (Int32.lt_of_lt_of_le q (by decide : (0 : Int32) ≤ nI 50)) (Int32.not_lt.mpr hn)
    have h49 : (49 : Int32) < v2 := Int32.lt_of_lt_of_le (by decide : (49 : Int32) < nI 50) hn
    unfold wpX_demand wpX_isCell
    refine br_f h0 (br_t hn (br_t rfl ?_))
    unfold wpY_demand
    exact br_f h0 (br_t h49 ⟨rfl, R0⟩)
  have e0 : ¬ nI e < 0 := nI_pos (by omega)
  have e50 : ¬ (50 : Int32) ≤ nI e := nI_ge (b := 50) he (by decide)
  have e49 : ¬ (49 : Int32) < nI e := nI_nlt (a := 49) (by omega) (by decide)
  have em := pd_m10 (n := e) (by omega)
  have ed := pd_d10 (n := e) (by omega)
  by_cases hm : e % 10 = 0
  · have hm' : nI e - nI e / 10 * 10 = 0 := by rw [em, hm]; rfl
    unfold wpX_demand wpX_isCell
    refine br_f e0 (br_f e50 ⟨by decide, br_t hm' (br_t rfl ?_)⟩)
    unfold wpY_demand
    exact br_f e0 (br_f e49 ⟨by decide, br_t hm' ⟨rfl, R0⟩⟩)
  have hm' : ¬ nI e - nI e / 10 * 10 = 0 := by rw [em]; exact nI_ne0 (by omega) (by omega)
  rcases pd_pk v3 with hp | ⟨p, hp, rfl⟩
  · unfold wpX_demand wpX_isCell
    refine br_f e0 (br_f e50 ⟨by decide, br_f hm' (br_f (by decide) (xp_pk0 hp (br_t rfl ?_)))⟩)
    unfold wpY_demand
    exact br_f e0 (br_f e49 ⟨by decide, br_f hm' (yp_pk0 hp (br_t rfl ⟨rfl, R0⟩))⟩)
  by_cases ho : p = e / 10
  · have ho' : nI p = nI e / 10 := by rw [ed, ho]
    unfold wpX_demand wpX_isCell
    refine br_f e0 (br_f e50 ⟨by decide, br_f hm' (br_f (by decide) (xp_pk1 hp (br_f (by decide) ⟨by decide, br_t ho' ?_⟩)))⟩)
    unfold wpY_demand
    exact br_f e0 (br_f e49 ⟨by decide, br_f hm' (yp_pk1 hp (br_f (by decide) ⟨by decide, br_t ho' ⟨rfl, R0⟩⟩))⟩)
  have ho' : ¬ nI p = nI e / 10 := by rw [ed]; exact fun q => ho ((nI_eq (by omega) (by omega)).mp q)
  by_cases hr : pd_GR v4
  case neg =>
    unfold wpX_demand wpX_isCell
    refine br_f e0 (br_f e50 ⟨by decide, br_f hm' (br_f (by decide) (xp_pk1 hp (br_f (by decide) ⟨by decide, br_f ho' (xp_rg (fun q => absurd q hr) (fun _ => br_t rfl ?_))⟩)))⟩)
    unfold wpY_demand
    exact br_f e0 (br_f e49 ⟨by decide, br_f hm' (yp_pk1 hp (br_f (by decide) ⟨by decide, br_f ho' (yp_rg (fun q => absurd q hr) (fun _ => br_t rfl ⟨rfl, R0⟩))⟩))⟩)
  obtain ⟨d, hd, hD⟩ := hI.1 e he
  have hc := vp_in_nI (n := e) (N := 50) he (by omega)
  unfold wpX_demand wpX_isCell
  refine br_f e0 (br_f e50 ⟨by decide, br_f hm' (br_f (by decide) (xp_pk1 hp (br_f (by decide) ⟨by decide, br_f ho' (xp_rg (fun _ => br_f (by decide) ⟨hc, ?_⟩) (fun q => absurd hr q))⟩)))⟩)
  rw [nI_clamp (n := e) (by omega), hD]
  by_cases hz : aO e = 0
  · refine br_t hz ?_
    unfold wpY_demand
    refine br_f e0 (br_f e49 ⟨by decide, br_f hm' (yp_pk1 hp (br_f (by decide) ⟨by decide, br_f ho' (yp_rg (fun _ => br_f (by decide) ⟨hc, ?_⟩) (fun q => absurd hr q))⟩))⟩)
    rw [nI_clamp (n := e) (by omega)]
    exact br_t hz ⟨rfl, R0⟩
  refine br_f hz ⟨hc, pk_lt d 3 (fun hlt => ⟨hc, nm_r (pd_l3 e d) ?_⟩) (fun hge => ?_) rfl rfl (by omega) (by omega)⟩
  · have hs : 3 * e + d < 150 := by omega
    have hsv := vp_in_nI (n := 3 * e + d) (N := 150) hs (by omega)
    rw [nI_clamp (n := 3 * e + d) (by omega)]
    refine ⟨hsv, nm_e ⟨hsv, nm_e ⟨hsv, nm_e ⟨hc, hc, nm_e ⟨hc, ?_⟩⟩⟩⟩⟩
    unfold wpY_demand
    refine br_f e0 (br_f e49 ⟨by decide, br_f hm' (yp_pk1 hp (br_f (by decide) ⟨by decide, br_f ho' (yp_rg (fun _ => br_f (by decide) ⟨hc, ?_⟩) (fun q => absurd hr q))⟩))⟩)
    rw [nI_clamp (n := e) (by omega), hD]
    refine br_f hz ⟨hc, br_f (fun q => absurd ((nI_eq (b := 3) (by omega) (by omega)).mp q) (by omega)) ⟨hc, nm_r (pd_l3 e d) ?_⟩⟩
    rw [nI_clamp (n := 3 * e + d) (by omega)]
    refine ⟨hsv, nm_e ⟨hsv, nm_e ⟨hsv, nm_e ⟨hc, hc, nm_e ⟨hc, rfl, ?_⟩⟩⟩⟩⟩
    refine pd_mk ew hw ek ec eg (by omega) en hG ⟨?_, ?_, hI.2.2⟩ ?_ h4 hV h9 hK
    · intro c hc50
      by_cases q : c = e
      · subst q; rw [pk_us, nI_1]; exact ⟨d + 1, by omega, rfl⟩
      · rw [pk_un q]; exact hI.1 c hc50
    · intro s hs150
      by_cases q : s = 3 * e + d
      · subst q; rw [pk_us]; exact ⟨p, hp, rfl⟩
      · rw [pk_un q]; exact hI.2.1 s hs150
    · intro c hc50 i hi
      by_cases q : c = e
      · subst q
        rw [pk_us, nI_1, nI_clamp (by omega)] at hi
        by_cases z : i = d
        · subst z
          rw [pk_us]
          exact fun w => ho ((nI_eq (by omega) (by omega)).mp w)
        · rw [pk_un (by omega)]
          exact hI2 c hc50 i (by rw [hD, nI_clamp (by omega)]; omega)
      · rw [pk_un q] at hi
        obtain ⟨d2, hd2, hD2⟩ := hI.1 c hc50
        have hi2 := hi
        rw [hD2, nI_clamp (by omega)] at hi2
        rw [pk_un (by omega)]
        exact hI2 c hc50 i hi
  · unfold wpY_demand
    refine br_f e0 (br_f e49 ⟨by decide, br_f hm' (yp_pk1 hp (br_f (by decide) ⟨by decide, br_f ho' (yp_rg (fun _ => br_f (by decide) ⟨hc, ?_⟩) (fun q => absurd hr q))⟩))⟩)
    rw [nI_clamp (n := e) (by omega), hD]
    exact br_f hz ⟨hc, br_t (by rw [show d = 3 by omega]; rfl) ⟨rfl, R0⟩⟩
theorem i_vc_wish {k : Nat} {u : SX} {v : SY} (I : i_Rel k u v) (hk : k + 5 ≤ 2560) (v1 : Int32) (v2 : Int32) (v3 : Int32) : wpX_wish (fun r u' => wpY_wish (fun r' v' => r' = r ∧ i_Rel (k + 5) u' v') v (lw_bz v1) v2 v3) u (lw_bz v1) v2 v3 := by
  obtain ⟨fw, fp, fl, fk, fc, fg, yN, yO, aV, aO, aP, aD, aN, aT, aR, aH, aW, aG, aL, aK, aU, aE, tA, tM, tB, tO, tS, yA, yM, yC, yR, rfl, rfl, ⟨w, kn, c, g, ew, hw, ek, ec, eg, hgk, en, hG, hI, hI2, h4, hV, h9, hK⟩⟩ := I
  have R0 : i_Rel (k + 5) (fw, fp, fl, fk, fc, fg, aV, aO, aP, aD, aN, aT, aR, aH, aW, aG, aL, aK, aU, aE, tA, tM, tB, tO, tS) (fw, fp, fl, fk, yN, fg, yO, aO, aP, aD, aN, aT, aR, aH, aW, aG, yA, yM, yC, aL, aK, aU, aE, yR) := pd_mk ew hw ek ec eg (by omega) en hG hI hI2 h4 hV h9 hK
  rcases pd_pk v2 with hp | ⟨p, hp, rfl⟩
  · unfold wpX_wish
    refine xp_pk0 hp (br_t rfl ?_)
    unfold wpY_wish
    exact yp_pk0 hp (br_t rfl ⟨rfl, R0⟩)
  by_cases hr : pd_GR v3
  case neg =>
    unfold wpX_wish
    refine xp_pk1 hp (br_f (by decide) (xp_rg (fun q => absurd q hr) (fun _ => br_t rfl ?_)))
    unfold wpY_wish
    exact yp_pk1 hp (br_f (by decide) (yp_rg (fun q => absurd q hr) (fun _ => br_t rfl ⟨rfl, R0⟩)))
  unfold wpX_wish
  refine xp_pk1 hp (br_f (by decide) (xp_rg (fun _ => br_f (by decide) ?_) (fun q => absurd hr q)))
  rw [ew]
  refine pk_lt w 4 (fun hlt => ?_) (fun hge => ?_) rfl rfl (by omega) (by omega)
  · have hv := vp_in_nI (n := w) (N := 4) hlt (by omega)
    rw [nI_clamp (n := w) (by omega)]
    refine ⟨hv, nm_e ⟨hv, nm_e ⟨hv, nm_e (nm_r (nI_1 w) ?_)⟩⟩⟩
    unfold wpY_wish
    refine yp_pk1 hp (br_f (by decide) (yp_rg (fun _ => br_f (by decide) ?_) (fun q => absurd hr q)))
    refine br_f (fun q => absurd ((nI_eq (b := 4) (by omega) (by omega)).mp q) (by omega)) ?_
    rw [nI_clamp (n := w) (by omega)]
    refine ⟨hv, nm_e ⟨hv, nm_e ⟨hv, nm_e (nm_r (nI_1 w) ⟨rfl, ?_⟩)⟩⟩⟩
    refine pd_mk rfl (by omega) ek ec eg (by omega) en hG ⟨hI.1, hI.2.1, ?_⟩ hI2 h4 hV h9 hK
    intro i hi
    by_cases q : i = w
    · subst q; rw [pk_us]; exact ⟨p, hp, rfl⟩
    · rw [pk_un q]; exact hI.2.2 i hi
  · rw [ew] at R0
    unfold wpY_wish
    exact yp_pk1 hp (br_f (by decide) (yp_rg (fun _ => br_f (by decide) (br_t (by rw [show w = 4 by omega]; rfl) ⟨rfl, R0⟩)) (fun q => absurd hr q)))
section
variable {fw fp fl fk fc fg yN yO : Int32} {aV aO aP aD aN aT aR aH aW aG aL aK aU aE tA tM tB tO tS yA yM yC yR : Nat → Int32}
theorem xy_uw {w : Nat} (hw : w ≤ 4) (hw0 : 0 < w) : ∀ g i, i + g = w - 1 → ∀ aH aW aG : Nat → Int32, (∀ i, i < 4 → ∃ o, o < 5 ∧ aW i = nI o) → ∃ aH' aW' aG' : Nat → Int32, (∀ i, i < 4 → ∃ o, o < 5 ∧ aW' i = nI o) ∧
    (∀ (post : Int32 → SX → Prop) fp fl fk fc fg aV aO aP aD aN aT aR aL aK aU aE tA tM tB tO tS, post (nI (w - 1)) (nI (w - 1), fp, fl, fk, fc, fg, aV, aO, aP, aD, aN, aT, aR, aH', aW', aG', aL, aK, aU, aE, tA, tM, tB, tO, tS) → wX_unwish_16 post (nI w) fp fl fk fc fg (g + 1) (nI i) aV aO aP aD aN aT aR aH aW aG aL aK aU aE tA tM tB tO tS) ∧
    (∀ (post : Int32 → SY → Prop) fp fl fk yN fg yO aO aP aD aN aT aR yA yM yC aL aK aU aE yR, post (nI (w - 1)) (nI (w - 1), fp, fl, fk, yN, fg, yO, aO, aP, aD, aN, aT, aR, aH', aW', aG', yA, yM, yC, aL, aK, aU, aE, yR) → wY_unwish_16 post (nI w) fp fl fk yN fg yO (g + 1) (nI i) aO aP aD aN aT aR aH aW aG yA yM yC aL aK aU aE yR) := by
  have ek : nI w - 1 = nI (w - 1) := pk_sub (b := 1) (by omega)
  intro g
  induction g with
  | zero =>
    intro i hi aH aW aG hW
    refine ⟨aH, aW, aG, hW, ?_, ?_⟩
    · intros
      exact br_t (by rw [ek]; exact nI_le (by omega) (by omega)) (nm_r ek (by assumption))
    · intros
      exact br_t (by rw [ek]; exact nI_le (by omega) (by omega)) (nm_r ek (by assumption))
  | succ g ih =>
    intro i hi aH aW aG hW
    obtain ⟨aH', aW', aG', h1, h2, h3⟩ := ih (i + 1) (by omega) (upd aH i (vp_nar .boolean (aH (i + 1)))) (upd aW i (aW (i + 1))) (upd aG i (aG (i + 1))) (by
      intro j hj
      by_cases q : j = i
      · subst q; rw [pk_us]; exact hW (j + 1) (by omega)
      · rw [pk_un q]; exact hW j hj)
    have v0 := vp_in_nI (n := i) (N := 4) (by omega) (by omega)
    have v1 := vp_in_nI (n := i + 1) (N := 4) (by omega) (by omega)
    refine ⟨aH', aW', aG', h1, ?_, ?_⟩
    · intros
      refine br_f (by rw [ek]; exact nI_ge (by omega) (by omega)) ?_
      rw [nI_1 i, nI_clamp (n := i) (by omega), nI_clamp (n := i + 1) (by omega)]
      exact ⟨v1, v0, nm_e ⟨v1, v0, nm_e ⟨v1, v0, nm_e (nm_e (h2 _ _ _ _ _ _ _ _ _ _ _ _ _ _ _ _ _ _ _ _ _ _ (by assumption)))⟩⟩⟩
    · intros
      refine br_f (by rw [ek]; exact nI_ge (by omega) (by omega)) ?_
      rw [nI_1 i, nI_clamp (n := i) (by omega), nI_clamp (n := i + 1) (by omega)]
      exact ⟨v1, v0, nm_e ⟨v1, v0, nm_e ⟨v1, v0, nm_e (nm_e (h3 _ _ _ _ _ _ _ _ _ _ _ _ _ _ _ _ _ _ _ _ _ (by assumption)))⟩⟩⟩
end
theorem i_vc_unwish {k : Nat} {u : SX} {v : SY} (I : i_Rel k u v) (hk : k + 5 ≤ 2560) (v1 : Int32) : wpX_unwish (fun r u' => wpY_unwish (fun r' v' => r' = r ∧ i_Rel (k + 5) u' v') v v1) u v1 := by
  obtain ⟨fw, fp, fl, fk, fc, fg, yN, yO, aV, aO, aP, aD, aN, aT, aR, aH, aW, aG, aL, aK, aU, aE, tA, tM, tB, tO, tS, yA, yM, yC, yR, rfl, rfl, ⟨w, kn, c, g, ew, hw, ek, ec, eg, hgk, en, hG, hI, hI2, h4, hV, h9, hK⟩⟩ := I
  have R0 : i_Rel (k + 5) (fw, fp, fl, fk, fc, fg, aV, aO, aP, aD, aN, aT, aR, aH, aW, aG, aL, aK, aU, aE, tA, tM, tB, tO, tS) (fw, fp, fl, fk, yN, fg, yO, aO, aP, aD, aN, aT, aR, aH, aW, aG, yA, yM, yC, aL, aK, aU, aE, yR) := pd_mk ew hw ek ec eg (by omega) en hG hI hI2 h4 hV h9 hK
  rcases pk_ix v1 (n := w) (by omega) with h | h | ⟨i, hi, rfl⟩
  · exact br_t h (br_t h ⟨rfl, R0⟩)
  · have h0 : ¬ v1 < 0 := fun q => absurd (Int32.lt_of_lt_of_le q (nI_pos' (n := w) (by omega))) (Int32.not_lt.mpr h)
    have h1 : ¬ v1 < fw := by rw [ew]; exact Int32.not_lt.mpr h
    exact br_f h0 (br_f h1 (br_f h0 (br_f h1 ⟨rfl, R0⟩)))
  · have h0 : ¬ nI i < 0 := nI_pos (by omega)
    have h1 : nI i < fw := by rw [ew]; exact nI_lt hi (by omega)
    obtain ⟨aH', aW', aG', g1, g2, g3⟩ := xy_uw hw (by omega) (w - 1 - i) i (by omega) aH aW aG hI.2.2
    refine br_f h0 (br_t h1 ⟨w - 1 - i + 1, ?_⟩)
    rw [ew]
    refine g2 _ _ _ _ _ _ _ _ _ _ _ _ _ _ _ _ _ _ _ _ _ _ (br_f h0 (br_t (nI_lt hi (by omega)) ⟨w - 1 - i + 1, g3 _ _ _ _ _ _ _ _ _ _ _ _ _ _ _ _ _ _ _ _ _ ⟨rfl, ?_⟩⟩))
    exact pd_mk rfl (by omega) ek ec eg (by omega) en hG ⟨hI.1, hI.2.1, g1⟩ hI2 h4 hV h9 hK
