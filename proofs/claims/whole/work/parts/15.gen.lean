/-! dropping and keeping generations -/
variable {fw fp fl fk fc fg yN yO : Int32} {aV aO aP aD aN aT aR aH aW aG aL aK aU aE tA tM tB tO tS yA yM yC yR : Nat → Int32}
theorem pd_sve (a : Nat → Int32) (d s q : Nat) (h : d ≤ s) : upd (pd_sv a (5 * d) (5 * s + q) 5) (5 * s + q) (pd_sv a (5 * d) (5 * s + q) 5 (5 * (s + 1) + q)) = pd_sv a (5 * d) (5 * s + (q + 1)) 5 := by
  rw [show 5 * (s + 1) + q = 5 * s + q + 5 by omega, ← Nat.add_assoc]
  exact pd_svs a (by omega) (by omega)
theorem xp_dr {post : SX → Prop} {kn c d : Nat} (hk : fk = nI kn) (hk6 : kn ≤ 6) (hc : fc = nI c) (hck : c < kn) (hd : d < kn)
    (h : post (fw, fp, fl, nI (kn - 1), nI (if c ≤ d then c else c - 1), fg, aV, aO, aP, aD, aN, aT, aR, aH, aW, aG, aL, aK, pd_sv aU d (kn - 1) 1, pd_sv aE (5 * d) (5 * (kn - 1)) 5, tA, tM, tB, tO, tS)) : wpX_dropGeneration post (fw, fp, fl, fk, fc, fg, aV, aO, aP, aD, aN, aT, aR, aH, aW, aG, aL, aK, aU, aE, tA, tM, tB, tO, tS) (nI d) := by
  have ek : fk - 1 = nI (kn - 1) := by rw [hk]; exact pk_sub (b := 1) (by omega)
  have inner : ∀ (J : Int32 → (Nat → Int32) → (Nat → Int32) → (Nat → Int32) → (Nat → Int32) → (Nat → Int32) → (Nat → Int32) → (Nat → Int32) → (Nat → Int32) → (Nat → Int32) → (Nat → Int32) → (Nat → Int32) → (Nat → Int32) → (Nat → Int32) → (Nat → Int32) → (Nat → Int32) → (Nat → Int32) → (Nat → Int32) → (Nat → Int32) → (Nat → Int32) → Prop) (U : Nat → Int32) (s : Nat), d ≤ s → s < kn - 1 → J (nI (s + 1)) aV aO aP aD aN aT aR aH aW aG aL aK U (pd_sv aE (5 * d) (5 * (s + 1)) 5) tA tM tB tO tS → ∀ g q, q + g = 5 → wX_dropGeneration_28 post J (nI d) (nI s) fw fp fl fk fc fg (g + 1) (nI q) aV aO aP aD aN aT aR aH aW aG aL aK U (pd_sv aE (5 * d) (5 * s + q) 5) tA tM tB tO tS := by
    intro J U s hds hs hJ g
    induction g with
    | zero =>
      intro q hq
      have e : q = 5 := by omega
      subst e
      exact br_t (by decide) (nm_r (nI_1 s) hJ)
    | succ g ih =>
      intro q hq
      refine br_f (lt5' q (by omega)) ?_
      rw [nI_1 s, pd_l5, pd_l5, nI_clamp (n := 5 * s + q) (by omega), nI_clamp (n := 5 * (s + 1) + q) (by omega), pd_sve aE d s q hds]
      exact ⟨vp_in_nI (by omega) (by omega), vp_in_nI (by omega) (by omega), nm_e (nm_r (nI_1 q) (ih (q + 1) (by omega)))⟩
  have key : ∀ g s, s + g = kn - 1 → d ≤ s → wX_dropGeneration_2 post (nI d) fw fp fl fk fc fg (g + 1) (nI s) aV aO aP aD aN aT aR aH aW aG aL aK (pd_sv aU d s 1) (pd_sv aE (5 * d) (5 * s) 5) tA tM tB tO tS := by
    intro g
    induction g with
    | zero =>
      intro s hs hds
      have e : s = kn - 1 := by omega
      subst e
      refine br_t (by rw [ek]; exact nI_le (Nat.le_refl _) (by omega)) (nm_r ek ?_)
      rw [hc]
      refine pk_le c d (fun z => ?_) (fun z => nm_r (e' := nI (c - 1)) (pk_sub (b := 1) (by omega)) ?_) rfl rfl (by omega) (by omega)
      · rw [if_pos z] at h; exact h
      · rw [if_neg (by omega)] at h; exact h
    | succ g ih =>
      intro s hs hds
      refine br_f (by rw [ek]; exact nI_ge (by omega) (by omega)) ?_
      rw [nI_1 s, nI_clamp (n := s) (by omega), nI_clamp (n := s + 1) (by omega), pd_svs aU hds (by omega)]
      exact ⟨vp_in_nI (by omega) (by omega), vp_in_nI (by omega) (by omega), nm_e ⟨6, inner _ _ s hds (by omega) (ih (s + 1) (by omega) (by omega)) 5 0 rfl⟩⟩
  have k0 := key (kn - 1 - d) d (by omega) (Nat.le_refl _)
  rw [pd_sv0, pd_sv0] at k0
  exact ⟨_, k0⟩
theorem yp_dr {post : SY → Prop} {kn d : Nat} (hk : fk = nI kn) (hk6 : kn ≤ 6) (hd : d < kn)
    (h : post (fw, fp, fl, nI (kn - 1), yN, fg, yO, aO, aP, aD, aN, aT, aR, aH, aW, aG, yA, yM, yC, aL, aK, pd_sv aU d (kn - 1) 1, pd_sv aE (5 * d) (5 * (kn - 1)) 5, yR)) : wpY_drop post (fw, fp, fl, fk, yN, fg, yO, aO, aP, aD, aN, aT, aR, aH, aW, aG, yA, yM, yC, aL, aK, aU, aE, yR) (nI d) := by
  have ek : fk - 1 = nI (kn - 1) := by rw [hk]; exact pk_sub (b := 1) (by omega)
  have inner : ∀ (J : Int32 → (Nat → Int32) → (Nat → Int32) → (Nat → Int32) → (Nat → Int32) → (Nat → Int32) → (Nat → Int32) → (Nat → Int32) → (Nat → Int32) → (Nat → Int32) → (Nat → Int32) → (Nat → Int32) → (Nat → Int32) → (Nat → Int32) → (Nat → Int32) → (Nat → Int32) → (Nat → Int32) → (Nat → Int32) → Prop) (U : Nat → Int32) (s : Nat), d ≤ s → s < kn - 1 → J (nI (s + 1)) aO aP aD aN aT aR aH aW aG yA yM yC aL aK U (pd_sv aE (5 * d) (5 * (s + 1)) 5) yR → ∀ g q, q + g = 5 → wY_drop_28 post J (nI s) fw fp fl fk yN fg yO (g + 1) (nI q) aO aP aD aN aT aR aH aW aG yA yM yC aL aK U (pd_sv aE (5 * d) (5 * s + q) 5) yR := by
    intro J U s hds hs hJ g
    induction g with
    | zero =>
      intro q hq
      have e : q = 5 := by omega
      subst e
      exact br_t (by decide) (nm_r (nI_1 s) hJ)
    | succ g ih =>
      intro q hq
      have e1 : (5 : Int32) * nI s + 5 + nI q = nI (5 * (s + 1) + q) := by
        rw [show 5 * (s + 1) + q = 5 * s + 5 + q by omega, ← nI_add, ← nI_add, ← pk_mul]; rfl
      refine br_f (lt5' q (by omega)) ?_
      rw [e1, pd_l5, nI_clamp (n := 5 * s + q) (by omega), nI_clamp (n := 5 * (s + 1) + q) (by omega), pd_sve aE d s q hds]
      exact ⟨vp_in_nI (by omega) (by omega), vp_in_nI (by omega) (by omega), nm_e (nm_r (nI_1 q) (ih (q + 1) (by omega)))⟩
  have key : ∀ g s, s + g = kn - 1 → d ≤ s → wY_drop_2 post fw fp fl fk yN fg yO (g + 1) (nI s) aO aP aD aN aT aR aH aW aG yA yM yC aL aK (pd_sv aU d s 1) (pd_sv aE (5 * d) (5 * s) 5) yR := by
    intro g
    induction g with
    | zero =>
      intro s hs hds
      have e : s = kn - 1 := by omega
      subst e
      exact br_t (by rw [ek]; exact nI_le (Nat.le_refl _) (by omega)) (nm_r ek h)
    | succ g ih =>
      intro s hs hds
      refine br_f (by rw [ek]; exact nI_ge (by omega) (by omega)) ?_
      rw [nI_1 s, nI_clamp (n := s) (by omega), nI_clamp (n := s + 1) (by omega), pd_svs aU hds (by omega)]
      exact ⟨vp_in_nI (by omega) (by omega), vp_in_nI (by omega) (by omega), nm_e ⟨6, inner _ _ s hds (by omega) (ih (s + 1) (by omega) (by omega)) 5 0 rfl⟩⟩
  have k0 := key (kn - 1 - d) d (by omega) (Nat.le_refl _)
  rw [pd_sv0, pd_sv0] at k0
  exact ⟨_, k0⟩
theorem pd_GIdr {kn c g d : Nat} (hG : pd_GI kn c g aU aE) (hd : d < kn) (hdc : ¬ d = c) : pd_GI (kn - 1) (if c ≤ d then c else c - 1) g (pd_sv aU d (kn - 1) 1) (pd_sv aE (5 * d) (5 * (kn - 1)) 5) := by
  obtain ⟨h1, h6, hc, ⟨m, hm1, hm2⟩, hE⟩ := hG
  refine ⟨by omega, by omega, ?_, ⟨fun i => if d ≤ i then m (i + 1) else m i, ?_, ?_⟩, ?_⟩
  · split <;> omega
  · intro i hi
    unfold pd_sv
    dsimp only
    by_cases z : d ≤ i
    · rw [if_pos z, if_pos ⟨z, hi⟩]
      exact hm1 (i + 1) (by omega)
    · rw [if_neg z, if_neg (fun q => z q.1)]
      exact hm1 i (by omega)
  · intro i j hij hj
    dsimp only
    by_cases z : d ≤ i
    · rw [if_pos z, if_pos (by omega)]
      exact hm2 (i + 1) (j + 1) (by omega) (by omega)
    · rw [if_neg z]
      by_cases z2 : d ≤ j
      · rw [if_pos z2]; exact hm2 i (j + 1) (by omega) (by omega)
      · rw [if_neg z2]; exact hm2 i j hij (by omega)
  · intro j hj
    unfold pd_sv
    by_cases z : 5 * d ≤ j ∧ j < 5 * (kn - 1)
    · rw [if_pos z]; exact hE (j + 5) (by omega)
    · rw [if_neg z]; exact hE j hj
theorem pd_Udr {kn c d : Nat} (hc : c < kn) (hd : d < kn) (hdc : ¬ d = c) : pd_sv aU d (kn - 1) 1 (if c ≤ d then c else c - 1) = aU c := by
  unfold pd_sv
  by_cases z : c ≤ d
  · rw [if_pos z, if_neg (by omega)]
  · rw [if_neg z, if_pos (by omega), show c - 1 + 1 = c by omega]
theorem pd_GIkp {kn c g : Nat} (hG : pd_GI kn c g aU aE) (hk5 : kn ≤ 5) (h9 : pd_9 aL) : pd_GI (kn + 1) kn (g + 1) (upd aU kn (nI (g + 1))) (pd_kp aE (5 * kn) aL 5) := by
  obtain ⟨h1, h6, hc, ⟨m, hm1, hm2⟩, hE⟩ := hG
  refine ⟨by omega, by omega, by omega, ⟨fun i => if i = kn then g + 1 else m i, ?_, ?_⟩, ?_⟩
  · intro i hi
    dsimp only
    by_cases z : i = kn
    · subst z; rw [if_pos rfl, pk_us]; exact ⟨rfl, Nat.le_refl _⟩
    · rw [if_neg z, pk_un z]
      have := hm1 i (by omega)
      exact ⟨this.1, by omega⟩
  · intro i j hij hj
    dsimp only
    rw [if_neg (show ¬ i = kn by omega)]
    by_cases z : j = kn
    · rw [if_pos z]
      have := (hm1 i (by omega)).2
      omega
    · rw [if_neg z]; exact hm2 i j hij (by omega)
  · intro j hj
    unfold pd_kp
    by_cases z : 5 * kn ≤ j ∧ j < 5 * kn + 5
    · rw [if_pos z]; exact h9 (j - 5 * kn) (by omega)
    · rw [if_neg z]; exact hE j hj
theorem xp_kp {post : SX → Prop} {kn g : Nat} (hk : fk = nI kn) (hk5 : kn ≤ 5) (hg : fg = nI g)
    (h : post (fw, fp, fl, nI (kn + 1), nI kn, nI (g + 1), aV, aO, aP, aD, aN, aT, aR, aH, aW, aG, aL, aK, upd aU kn (nI (g + 1)), pd_kp aE (5 * kn) aL 5, tA, tM, tB, tO, tS)) : wpX_keepPlan post (fw, fp, fl, fk, fc, fg, aV, aO, aP, aD, aN, aT, aR, aH, aW, aG, aL, aK, aU, aE, tA, tM, tB, tO, tS) := by
  have key : ∀ g' q, q + g' = 5 → wX_keepPlan_25 post fw fp fl fk fc (nI (g + 1)) (g' + 1) (nI q) aV aO aP aD aN aT aR aH aW aG aL aK (upd aU kn (nI (g + 1))) (pd_kp aE (5 * kn) aL q) tA tM tB tO tS := by
    intro g'
    induction g' with
    | zero =>
      intro q hq
      have e : q = 5 := by omega
      subst e
      refine br_t (by decide) ?_
      rw [hk]
      exact nm_r (nI_1 kn) h
    | succ g' ih =>
      intro q hq
      refine br_f (lt5' q (by omega)) ?_
      have e1 : (5 : Int32) * fk + nI q = nI (5 * kn + q) := by rw [hk]; exact pd_l5 kn q
      rw [e1, nI_clamp (n := q) (by omega), nI_clamp (n := 5 * kn + q) (by omega), pd_kps]
      exact ⟨vp_in_nI (by omega) (by omega), vp_in_nI (by omega) (by omega), nm_e (nm_r (nI_1 q) (ih (q + 1) (by omega)))⟩
  have k0 := key 5 0 rfl
  rw [pd_kp0] at k0
  refine nm_r (e' := nI (g + 1)) (by rw [hg]; exact nI_1 g) ⟨by rw [hk]; exact vp_in_nI (by omega) (by omega), nm_r (e' := upd aU kn (nI (g + 1))) (by rw [hk, nI_clamp (by omega)]) ⟨6, k0⟩⟩
theorem yp_kp {post : Int32 → SY → Prop} {kn g : Nat} (hk : fk = nI kn) (hk5 : kn ≤ 5) (hg : fg = nI g)
    (h : post (nI (g + 1)) (fw, fp, fl, nI (kn + 1), nI (g + 1), nI (g + 1), yO, aO, aP, aD, aN, aT, aR, aH, aW, aG, yA, yM, yC, aL, aK, upd aU kn (nI (g + 1)), pd_kp aE (5 * kn) aL 5, yR)) : wY_apply_67 post fw fp fl fk yN fg yO aO aP aD aN aT aR aH aW aG yA yM yC aL aK aU aE yR := by
  have key : ∀ g' q, q + g' = 5 → wY_apply_92 post fw fp fl fk yN (nI (g + 1)) yO (g' + 1) (nI q) aO aP aD aN aT aR aH aW aG yA yM yC aL aK (upd aU kn (nI (g + 1))) (pd_kp aE (5 * kn) aL q) yR := by
    intro g'
    induction g' with
    | zero =>
      intro q hq
      have e : q = 5 := by omega
      subst e
      refine br_t (by decide) (nm_r (e' := nI (kn + 1)) (by rw [hk]; exact nI_1 kn) h)
    | succ g' ih =>
      intro q hq
      refine br_f (lt5' q (by omega)) ?_
      have e1 : (5 : Int32) * fk + nI q = nI (5 * kn + q) := by rw [hk]; exact pd_l5 kn q
      rw [e1, nI_clamp (n := q) (by omega), nI_clamp (n := 5 * kn + q) (by omega), pd_kps]
      exact ⟨vp_in_nI (by omega) (by omega), vp_in_nI (by omega) (by omega), nm_e (nm_r (nI_1 q) (ih (q + 1) (by omega)))⟩
  have k0 := key 5 0 rfl
  rw [pd_kp0] at k0
  refine nm_r (e' := nI (g + 1)) (by rw [hg]; exact nI_1 g) ⟨by rw [hk]; exact vp_in_nI (by omega) (by omega), nm_r (e' := upd aU kn (nI (g + 1))) (by rw [hk, nI_clamp (by omega)]) ⟨6, k0⟩⟩
