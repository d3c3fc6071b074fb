/-! Y's walks: soundness, wishes, the list of versions, a choice by its number; X's walks: the next choice -/
variable {fw fp fl fk fc fg yN yO : Int32} {aV aO aP aD aN aT aR aH aW aG aL aK aU aE tA tM tB tO tS yA yM yC yR : Nat → Int32}
theorem yp_dh {post : Int32 → Prop} {q x e d : Nat} (hq : q < 5) (hx : yC q = nI x) (hx9 : x ≤ 9) (hxe : 10 * q + x = e) (hD : aD e = nI d) (hd : d ≤ 3) (hT : ∀ s, s < 150 → ∃ o, o < 5 ∧ aT s = nI o) (h1 : pd_D aD aN aT aR yC e → post 1) (h0 : ¬ pd_D aD aN aT aR yC e → post 0) : wpY_demandsHold post (fw, fp, fl, fk, yN, fg, yO, aO, aP, aD, aN, aT, aR, aH, aW, aG, yA, yM, yC, aL, aK, aU, aE, yR) (nI q) := by
  have he : e < 50 := by omega
  have key : ∀ g i, i + g = d → (∀ j, j < i → pd_r (yC (aT (3 * e + j)).toNatClampNeg) (aR (3 * e + j)) = aN (3 * e + j)) → wY_demandsHold_16 post (nI e) fw fp fl fk yN fg yO aO aP aD aN aT aR aH aW aG yA yM yC aL aK aU aE yR (g + 1) (nI (3 * e + i)) := by
    intro g
    induction g with
    | zero =>
      intro i hi hj
      refine ⟨vp_in_nI he (by omega), ?_⟩
      rw [nI_clamp (by omega), hD]
      have ee : (3 : Int32) * nI e + nI d = nI (3 * e + d) := by rw [← nI_add, ← pk_mul]; rfl
      rw [ee]
      refine br_t (nI_le (by omega) (by omega)) (h1 ?_)
      intro j hj'
      rw [hD, nI_clamp (by omega)] at hj'
      exact hj j (by omega)
    | succ g ih =>
      intro i hi hj
      have hk : 3 * e + i < 150 := by omega
      obtain ⟨o, ho, eo⟩ := hT (3 * e + i) hk
      refine ⟨vp_in_nI he (by omega), ?_⟩
      rw [nI_clamp (n := e) (by omega), hD]
      have ee : (3 : Int32) * nI e + nI d = nI (3 * e + d) := by rw [← nI_add, ← pk_mul]; rfl
      rw [ee]
      refine br_f (nI_ge (by omega) (by omega)) ?_
      rw [nI_clamp (n := 3 * e + i) (by omega)]
      refine ⟨vp_in_nI hk (by omega), by rw [eo]; exact vp_in_nI ho (by omega), vp_in_nI hk (by omega), yp_in ?_⟩
      refine ⟨vp_in_nI hk (by omega), br_c (fun c => nm_r (nI_1 _) (ih (i + 1) (by omega) ?_)) (fun c => h0 ?_)⟩
      · intro j hj'
        by_cases z : j = i
        · subst z; exact c
        · exact hj j (by omega)
      · intro hq
        exact c (hq i (by rw [hD, nI_clamp (by omega)]; omega))
  refine ⟨vp_in_nI hq (by omega), ?_⟩
  rw [nI_clamp (n := q) (by omega), hx]
  exact nm_r (e' := nI e) (by rw [← hxe, ← nI_add, ← pk_mul]; rfl) (nm_r (e' := nI (3 * e + 0)) (by rw [Nat.add_zero, ← pk_mul]; rfl) ⟨d + 1, key d 0 (by omega) (fun j hj => absurd hj (Nat.not_lt_zero _))⟩)
theorem yp_snd {post : Int32 → Prop} (hI : pd_I aD aT aW) (h9 : pd_9 yC) (h1 : pd_S aP aD aN aT aR yC → post 1) (h0 : ¬ pd_S aP aD aN aT aR yC → post 0) : wpY_isSound post (fw, fp, fl, fk, yN, fg, yO, aO, aP, aD, aN, aT, aR, aH, aW, aG, yA, yM, yC, aL, aK, aU, aE, yR) := by
  have key : ∀ g i, i + g = 5 → (∀ p, p < i → ¬ yC p = 0 → (pd_t aP yC p &&& aP (10 * p + (yC p).toNatClampNeg)) = 0 ∧ pd_D aD aN aT aR yC (10 * p + (yC p).toNatClampNeg)) → wY_isSound_4 post fw fp fl fk yN fg yO aO aP aD aN aT aR aH aW aG yA yM yC aL aK aU aE yR (g + 1) (pd_t aP yC i) (nI i) := by
    intro g
    induction g with
    | zero =>
      intro i hi hj
      refine br_t (nI_le (a := 5) (by omega) (by omega)) (h1 ?_)
      intro p hp
      exact hj p (by omega)
    | succ g ih =>
      intro i hi hj
      have hi5 : i < 5 := by omega
      obtain ⟨x, hx, ex⟩ := h9 i hi5
      have hl : 10 * i + x < 50 := by omega
      obtain ⟨d, hd, hD⟩ := hI.1 _ hl
      have et : (yC i).toNatClampNeg = x := by rw [ex, nI_clamp (by omega)]
      have ee : (10 : Int32) * nI i + nI x = nI (10 * i + x) := by rw [← nI_add, ← pk_mul]; rfl
      refine br_f (lt5' i hi5) ⟨vp_in_nI hi5 (by omega), ?_⟩
      rw [nI_clamp (n := i) (by omega), ex, ee]
      refine pk_le x 0 (fun z => nm_r (nI_1 i) ?_) (fun z => ⟨vp_in_nI hi5 (by omega), vp_in_nI hl (by omega), ?_⟩) rfl rfl (by omega) (by omega)
      · have z0 : yC i = 0 := by rw [ex, show x = 0 by omega]; rfl
        have i2 := ih (i + 1) (by omega) (fun p hp hz => by
          by_cases q : p = i
          · subst q; exact absurd z0 hz
          · exact hj p (by omega) hz)
        rw [pd_t, if_pos z0] at i2
        exact i2
      · have z0 : ¬ yC i = 0 := by rw [ex]; exact nI_ne0 (by omega) (by omega)
        rw [nI_clamp (n := 10 * i + x) (by omega)]
        refine nm_e (br_c (fun a => ?_) (fun a => h0 ?_))
        · refine yp_dh hi5 ex hx rfl hD hd hI.2.1 (fun hq => ?_) (fun hq => ?_)
          · refine br_f (by decide) (nm_e (nm_r (nI_1 i) ?_))
            have i2 := ih (i + 1) (by omega) (fun p hp hz => by
              by_cases q : p = i
              · subst q; rw [et]; exact ⟨a, hq⟩
              · exact hj p (by omega) hz)
            rw [pd_t, if_neg z0, et] at i2
            exact i2
          · refine br_t rfl (h0 ?_)
            intro hs
            have := (hs i hi5 z0).2
            rw [et] at this
            exact hq this
        · intro hs
          have := (hs i hi5 z0).1
          rw [et] at this
          exact a this
  exact ⟨6, key 5 0 rfl (fun p hp => absurd hp (Nat.not_lt_zero _))⟩
theorem yp_meets {post : Int32 → Prop} {w : Nat} {x : Int32} (hw : fw = nI w) (hw4 : w ≤ 4) (hI : pd_I aD aT aW) (h1 : (∀ i, i < w → bt x i = true → pd_w aH aW aG yC i = true) → post 1) (h0 : ¬ (∀ i, i < w → bt x i = true → pd_w aH aW aG yC i = true) → post 0) : wpY_meets post (fw, fp, fl, fk, yN, fg, yO, aO, aP, aD, aN, aT, aR, aH, aW, aG, yA, yM, yC, aL, aK, aU, aE, yR) x := by
  have key : ∀ g i, i + g = w → (∀ j, j < i → bt x j = true → pd_w aH aW aG yC j = true) → wY_meets_2 post x fw fp fl fk yN fg yO aO aP aD aN aT aR aH aW aG yA yM yC aL aK aU aE yR (g + 1) (nI i) := by
    intro g
    induction g with
    | zero =>
      intro i hi hj
      refine br_t (by rw [hw]; exact nI_le (by omega) (by omega)) (h1 ?_)
      intro j hj'
      exact hj j (by omega)
    | succ g ih =>
      intro i hi hj
      have hi4 : i < 4 := by omega
      obtain ⟨o, ho, eo⟩ := hI.2.2 i hi4
      refine br_f (by rw [hw]; exact nI_ge (by omega) (by omega)) ?_
      rw [pd_bit1 x (show i < 31 by omega), nI_clamp (n := i) (by omega)]
      refine br_c (fun b => ⟨vp_in_nI hi4 (by omega), by rw [eo]; exact vp_in_nI ho (by omega), vp_in_nI hi4 (by omega), yp_in ⟨vp_in_nI hi4 (by omega), br_c (fun c => nm_r (nI_1 i) (ih (i + 1) (by omega) ?_)) (fun c => h0 ?_)⟩⟩) (fun b => nm_r (nI_1 i) (ih (i + 1) (by omega) ?_))
      · intro j hj' hb
        by_cases z : j = i
        · subst z; exact decide_eq_true c
        · exact hj j (by omega) hb
      · intro q
        exact c (of_decide_eq_true (q i (by omega) b))
      · intro j hj' hb
        by_cases z : j = i
        · subst z; exact absurd hb b
        · exact hj j (by omega) hb
  exact ⟨w + 1, key w 0 (by omega) (fun j hj => absurd hj (Nat.not_lt_zero _))⟩
theorem pd_15 : ∀ i, i < 4 → bt 15 i = true := by decide +kernel
theorem yp_sol {post : Int32 → Prop} {w : Nat} (hw : fw = nI w) (hw4 : w ≤ 4) (hI : pd_I aD aT aW) (h9 : pd_9 yC) (h1 : pd_Q w aP aD aN aT aR aH aW aG yC → post 1) (h0 : ¬ pd_Q w aP aD aN aT aR aH aW aG yC → post 0) : wpY_isSolution post (fw, fp, fl, fk, yN, fg, yO, aO, aP, aD, aN, aT, aR, aH, aW, aG, yA, yM, yC, aL, aK, aU, aE, yR) := by
  unfold wpY_isSolution
  refine yp_snd hI h9 (fun s => br_f (by decide) ?_) (fun s => br_t rfl (h0 (fun q => s q.2)))
  refine yp_meets hw hw4 hI (fun m => br_f (by decide) (h1 ⟨fun i hi => m i hi (pd_15 i (by omega)), s⟩)) (fun m => br_t rfl (h0 (fun q => m (fun i hi _ => q.1 i hi))))
theorem xp_nv {post : Int32 → Prop} {p v : Nat} (hp : p < 5) (hv : v ≤ 9) (h : post (nI (pd_nv (pd_h aO p) (if v = 0 then 9 else v - 1)))) : wpX_nextVersion post (fw, fp, fl, fk, fc, fg, aV, aO, aP, aD, aN, aT, aR, aH, aW, aG, aL, aK, aU, aE, tA, tM, tB, tO, tS) (nI p) (nI v) := by
  have key : ∀ s, s ≤ 9 → post (nI (pd_nv (pd_h aO p) s)) → wX_nextVersion_16 post (nI p) fw fp fl fk fc fg aV aO aP aD aN aT aR aH aW aG aL aK aU aE tA tM tB tO tS (s + 1) (nI s) := by
    intro s
    induction s with
    | zero =>
      intro _ h
      exact br_t (nI_lt (a := 0) (b := 1) (by omega) (by omega)) h
    | succ s ih =>
      intro hs h
      have hl : 10 * p + (s + 1) < 50 := by omega
      have ee : (10 : Int32) * nI p + nI (s + 1) = nI (10 * p + (s + 1)) := pd_l10 p (s + 1)
      refine br_f (nI_nlt (b := 1) (by omega) (by omega)) ?_
      rw [ee, nI_clamp (n := 10 * p + (s + 1)) (by omega)]
      refine ⟨vp_in_nI hl (by omega), br_c (fun z => nm_r (pk_m1 s) (ih (by omega) ?_)) (fun z => ?_)⟩
      · rw [pd_nv, pd_h0 z] at h
        exact h
      · rw [pd_nv, pd_h1 z] at h
        exact h
  refine pk_eq v 0 (fun z => ?_) (fun z => ?_) rfl rfl (by omega) (by omega)
  · rw [if_pos z] at h
    exact ⟨10, key 9 (by omega) h⟩
  · rw [if_neg z] at h
    exact nm_r (e' := nI (v - 1)) (pk_sub (b := 1) (by omega)) ⟨v - 1 + 1, key (v - 1) (by omega) h⟩
theorem pd_rkN {aO : Nat → Int32} {n n' : Nat} : ∀ k j, pd_rk aO n' k = pd_rk aO n k → pd_rk aO n' (k + j) = pd_rk aO n (k + j) := by
  intro k j h
  induction j with
  | zero => exact h
  | succ j ih => rw [← Nat.add_assoc, pd_rk, pd_rk, ih]
theorem xp_nt {post : SX → Prop} {n : Nat} (hc : ∀ p, p < 5 → tA p = pd_ci aO n p) (h : ∀ t, (∀ p, p < 5 → t p = pd_ci aO (n + 1) p) → post (fw, fp, fl, fk, fc, fg, aV, aO, aP, aD, aN, aT, aR, aH, aW, aG, aL, aK, aU, aE, t, tM, tB, tO, tS)) : wpX_nextTrial post (fw, fp, fl, fk, fc, fg, aV, aO, aP, aD, aN, aT, aR, aH, aW, aG, aL, aK, aU, aE, tA, tM, tB, tO, tS) := by
  have key : ∀ p, p < 5 → ∀ t : Nat → Int32, (∀ q, q ≤ p → t q = pd_ci aO n q) → (∀ q, p < q → q < 5 → t q = pd_ci aO (n + 1) q) → pd_rk aO (n + 1) (4 - p) = pd_rk aO n (4 - p) + 1 → wX_nextTrial_2 post fw fp fl fk fc fg (p + 2) (nI p) aV aO aP aD aN aT aR aH aW aG aL aK aU aE t tM tB tO tS := by
    intro p
    induction p with
    | zero =>
      intro hp t h1 h2 h3
      have hd : pd_rk aO n (4 - 0) % pd_M aO 0 < pd_M aO 0 := Nat.mod_lt _ (pd_Mpos aO 0)
      have et : t 0 = nI (pd_o aO 0 (pd_rk aO n (4 - 0) % pd_M aO 0)) := h1 0 (Nat.le_refl _)
      refine br_f (nI_pos (by omega)) ⟨vp_in_nI hp (by omega), ?_⟩
      rw [nI_clamp (n := 0) (by omega), et]
      refine xp_nv hp (pd_o9 hd) ⟨vp_in_nI hp (by omega), nm_e ⟨vp_in_nI hp (by omega), ?_⟩⟩
      have ev : pd_nv (pd_h aO 0) (if pd_o aO 0 (pd_rk aO n (4 - 0) % pd_M aO 0) = 0 then 9 else pd_o aO 0 (pd_rk aO n (4 - 0) % pd_M aO 0) - 1) = pd_c aO (n + 1) 0 := by
        rw [pd_next hd, ← pd_succmod, ← h3]; rfl
      rw [ev, pk_us]
      have fin : ∀ q, q < 5 → upd t 0 (nI (pd_c aO (n + 1) 0)) q = pd_ci aO (n + 1) q := by
        intro q hq
        by_cases z : q = 0
        · subst z; rw [pk_us]; rfl
        · rw [pk_un z]; exact h2 q (by omega) hq
      refine br_c (fun z => nm_r (e' := -1) (by decide) (br_t (by decide) (h _ fin))) (fun z => h _ fin)
    | succ p ih =>
      intro hp t h1 h2 h3
      have hM := pd_Mpos aO (p + 1)
      have hd : pd_rk aO n (4 - (p + 1)) % pd_M aO (p + 1) < pd_M aO (p + 1) := Nat.mod_lt _ hM
      have et : t (p + 1) = nI (pd_o aO (p + 1) (pd_rk aO n (4 - (p + 1)) % pd_M aO (p + 1))) := h1 (p + 1) (Nat.le_refl _)
      refine br_f (nI_pos (by omega)) ⟨vp_in_nI hp (by omega), ?_⟩
      rw [nI_clamp (n := p + 1) (by omega), et]
      refine xp_nv hp (pd_o9 hd) ⟨vp_in_nI hp (by omega), nm_e ⟨vp_in_nI hp (by omega), ?_⟩⟩
      have ev : pd_nv (pd_h aO (p + 1)) (if pd_o aO (p + 1) (pd_rk aO n (4 - (p + 1)) % pd_M aO (p + 1)) = 0 then 9 else pd_o aO (p + 1) (pd_rk aO n (4 - (p + 1)) % pd_M aO (p + 1)) - 1) = pd_c aO (n + 1) (p + 1) := by
        rw [pd_next hd, ← pd_succmod, ← h3]; rfl
      have e4 : 4 - p = (4 - (p + 1)) + 1 := by omega
      have e5 : 4 - (4 - (p + 1)) = p + 1 := by omega
      have er : ∀ m, pd_rk aO m (4 - p) = pd_rk aO m (4 - (p + 1)) / pd_M aO (p + 1) := by
        intro m
        rw [e4, pd_rk, e5]
      have hd2 : pd_rk aO (n + 1) (4 - (p + 1)) % pd_M aO (p + 1) < pd_M aO (p + 1) := Nat.mod_lt _ hM
      rw [ev, pk_us]
      have up : ∀ q, q ≠ p + 1 → upd t (p + 1) (nI (pd_c aO (n + 1) (p + 1))) q = t q := fun q hq => pk_un hq
      have us : upd t (p + 1) (nI (pd_c aO (n + 1) (p + 1))) (p + 1) = pd_ci aO (n + 1) (p + 1) := pk_us
      refine br_c (fun z => nm_r (pk_m1 p) (ih (by omega) _ ?_ ?_ ?_)) (fun z => h _ ?_)
      · intro q hq
        rw [up q (by omega)]
        exact h1 q (by omega)
      · intro q hq hq5
        by_cases y : q = p + 1
        · subst y; exact us
        · rw [up q y]; exact h2 q (by omega) hq5
      · have z2 : pd_c aO (n + 1) (p + 1) = 0 := by
          have := pd_c9 aO (n + 1) (p + 1)
          exact (nI_eq (by omega) (by omega)).mp z
        have z3 : pd_rk aO (n + 1) (4 - (p + 1)) % pd_M aO (p + 1) = 0 := by
          rcases pd_o_cases hd2 with ⟨a, _⟩ | ⟨_, b, _⟩
          · exact a
          · unfold pd_c at z2; omega
        rw [er, er, h3, pd_succdiv hM, if_pos (by rw [← h3]; exact z3)]
      · have z3 : ¬ pd_rk aO (n + 1) (4 - (p + 1)) % pd_M aO (p + 1) = 0 := by
          intro y
          apply z
          show nI (pd_o aO (p + 1) (pd_rk aO (n + 1) (4 - (p + 1)) % pd_M aO (p + 1))) = 0
          rw [y]; rfl
        have e6 : pd_rk aO (n + 1) (4 - p) = pd_rk aO n (4 - p) := by
          rw [er, er, h3, pd_succdiv hM, if_neg (by rw [← h3]; exact z3)]
        intro q hq5
        by_cases y : q = p + 1
        · subst y; exact us
        · rw [up q y]
          by_cases y2 : q ≤ p
          · rw [h1 q (by omega)]
            unfold pd_ci pd_c
            have := pd_rkN (4 - p) (p - q) e6
            rw [show 4 - p + (p - q) = 4 - q by omega] at this
            rw [this]
          · exact h2 q (by omega) hq5
  exact ⟨6, key 4 (by omega) tA (fun q hq => hc q (by omega)) (fun q a b => by omega) rfl⟩
