/-! X's orderPlan, Y's arrange: one list -/
variable {fw fp fl fk fc fg yN yO : Int32} {aV aO aP aD aN aT aR aH aW aG aL aK aU aE tA tM tB tO tS yA yM yC yR : Nat → Int32}
def pd_AL (a : Nat → Int32) (L : List Nat) : Prop := ∀ i, i < L.length → a i = nI (L.getD i 0)
theorem pd_ALa {a : Nat → Int32} {L : List Nat} (h : pd_AL a L) (q : Nat) : pd_AL (upd a L.length (nI q)) (L ++ [q]) := by
  intro i hi
  rw [List.length_append] at hi
  have e1 : [q].length = 1 := rfl
  by_cases z : i = L.length
  · subst z; rw [pk_us, pd_getD_mid]
  · rw [pk_un z, pd_getD_app (by omega)]
    exact h i (by omega)
theorem gr_fll {S : Nat → Prop} : ∀ n q, (gr_fl S q).length ≤ (gr_fl S (q + n)).length := by
  intro n
  induction n with
  | zero => intro q; exact Nat.le_refl _
  | succ n ih =>
    intro q
    have i := ih q
    by_cases h : S (q + n)
    · rw [← Nat.add_assoc, gr_flP h, List.length_append]; omega
    · rw [← Nat.add_assoc, gr_flN h]; exact i
theorem gr_dj {R : Nat → Nat → Prop} {V : Nat → Prop} (hV : ∀ x y, R x y → V x ∧ V y) (r : Nat) {p : Nat} (hp : p < 5) (h5 : gr_nx (gr_C R V (gr_st R V r).1) < 5) (hg : gr_G R (gr_nx (gr_C R V (gr_st R V r).1)) p) : ¬ (gr_st R V r).1 p := by
  intro h
  exact (gr_nxC _ h5).2.1 ((gr_inv hV r).2.2 p _ hp h5 h (gr_Gs hg))
theorem xp_op {post : Int32 → SX → Prop} (hI : pd_I aD aT aW) (hI2 : pd_I2 aD aT) (h9 : pd_9 aL) (h : ∀ b a, pd_AL a (gr_st (pd_R aO aD aN aT aL) (pd_U aL) 5).2 → post (nI (gr_st (pd_R aO aD aN aT aL) (pd_U aL) 5).2.length) (fw, fp, fl, fk, fc, fg, aV, aO, aP, aD, aN, aT, aR, aH, aW, aG, aL, aK, aU, aE, tA, tM, b, a, tS)) : wpX_orderPlan post (fw, fp, fl, fk, fc, fg, aV, aO, aP, aD, aN, aT, aR, aH, aW, aG, aL, aK, aU, aE, tA, tM, tB, tO, tS) := by
  have inner : ∀ (J : Int32 → Int32 → Int32 → (Nat → Int32) → (Nat → Int32) → (Nat → Int32) → (Nat → Int32) → (Nat → Int32) → (Nat → Int32) → (Nat → Int32) → (Nat → Int32) → (Nat → Int32) → (Nat → Int32) → (Nat → Int32) → (Nat → Int32) → (Nat → Int32) → (Nat → Int32) → (Nat → Int32) → (Nat → Int32) → (Nat → Int32) → (Nat → Int32) → (Nat → Int32) → Prop) (b : Nat → Int32) (x1 x3 x4 : Int32) (S : Nat → Prop) (L : List Nat), pd_MS x4 S → (L ++ gr_fl S 5).length ≤ 5 → (∀ a, pd_AL a (L ++ gr_fl S 5) → J (x1 ||| x4) (nI (L ++ gr_fl S 5).length) (x3 + 1) aV aO aP aD aN aT aR aH aW aG aL aK aU aE tA tM b a tS) → ∀ g q, q + g = 5 → ∀ a, pd_AL a (L ++ gr_fl S q) → wX_orderPlan_29 post J x1 x3 x4 fw fp fl fk fc fg (g + 1) (nI (L ++ gr_fl S q).length) (nI q) aV aO aP aD aN aT aR aH aW aG aL aK aU aE tA tM b a tS := by
    intro J b x1 x3 x4 S L hm hlen hJ g
    induction g with
    | zero =>
      intro q hq a ha
      have e : q = 5 := by omega
      subst e
      exact br_t (by decide) (nm_e (nm_e (hJ a ha)))
    | succ g ih =>
      intro q hq a ha
      have hq5 : q < 5 := by omega
      refine br_f (lt5' q hq5) ?_
      rw [pd_MSb0 hm hq5]
      refine br_c (fun z => nm_r (nI_1 q) ?_) (fun z => ?_)
      · have i2 := ih (q + 1) (by omega) a (by rw [gr_flN z]; exact ha)
        rw [gr_flN z] at i2
        exact i2
      · have z' := Classical.not_not.mp z
        have hl := gr_fll (S := S) (5 - (q + 1)) (q + 1)
        rw [show q + 1 + (5 - (q + 1)) = 5 by omega, gr_flP z', List.length_append] at hl
        rw [List.length_append] at hlen
        have e1 : [q].length = 1 := rfl
        have hb5 : (L ++ gr_fl S q).length < 5 := by rw [List.length_append]; omega
        rw [nI_clamp (n := (L ++ gr_fl S q).length) (by omega)]
        refine ⟨vp_in_nI hb5 (by omega), nm_e (nm_r (nI_1 _) (nm_r (nI_1 q) ?_))⟩
        have e2 : L ++ gr_fl S (q + 1) = (L ++ gr_fl S q) ++ [q] := by rw [gr_flP z', List.append_assoc]
        have i2 := ih (q + 1) (by omega) (upd a (L ++ gr_fl S q).length (nI q)) (by rw [e2]; exact pd_ALa ha q)
        rw [e2, List.length_append (bs := [q])] at i2
        exact i2
  unfold wpX_orderPlan
  refine xp_fb hI hI2 h9 (fun b hb => ?_)
  have hV := pd_RU (aO := aO) (aD := aD) (aN := aN) (aT := aT) (aL := aL)
  have key : ∀ g r, r + g = 5 → ∀ x1 a, pd_MS x1 (gr_st (pd_R aO aD aN aT aL) (pd_U aL) r).1 → pd_AL a (gr_st (pd_R aO aD aN aT aL) (pd_U aL) r).2 → wX_orderPlan_10 post fw fp fl fk fc fg (g + 1) x1 (nI (gr_st (pd_R aO aD aN aT aL) (pd_U aL) r).2.length) (nI r) aV aO aP aD aN aT aR aH aW aG aL aK aU aE tA tM b a tS := by
    intro g
    induction g with
    | zero =>
      intro r hr x1 a hm ha
      have e : r = 5 := by omega
      subst e
      exact br_t (by decide) (h b a ha)
    | succ g ih =>
      intro r hr x1 a hm ha
      refine br_f (lt5' r (by omega)) (xp_ng hb hm (fun m hmm => nm_e ⟨6, ?_⟩))
      have hlen := gr_len hV (r + 1)
      have hm4 : pd_MS (m &&& (x1 ^^^ (-1))) (fun y => gr_nx (gr_C (pd_R aO aD aN aT aL) (pd_U aL) (gr_st (pd_R aO aD aN aT aL) (pd_U aL) r).1) < 5 ∧ gr_G (pd_R aO aD aN aT aL) (gr_nx (gr_C (pd_R aO aD aN aT aL) (pd_U aL) (gr_st (pd_R aO aD aN aT aL) (pd_U aL) r).1)) y) := by
        refine pd_MSc (pd_MSd hmm hm) (fun y hy => ?_)
        exact ⟨fun z => z.1, fun z => ⟨z, gr_dj hV r hy z.1 z.2⟩⟩
      have hJ : ∀ a', pd_AL a' (gr_st (pd_R aO aD aN aT aL) (pd_U aL) (r + 1)).2 → wX_orderPlan_10 post fw fp fl fk fc fg (g + 1) (x1 ||| (m &&& (x1 ^^^ (-1)))) (nI (gr_st (pd_R aO aD aN aT aL) (pd_U aL) (r + 1)).2.length) (nI r + 1) aV aO aP aD aN aT aR aH aW aG aL aK aU aE tA tM b a' tS := by
        intro a' ha'
        rw [nI_1]
        refine ih (r + 1) (by omega) _ a' ?_ ha'
        refine pd_MSc (pd_MSo hm hm4) (fun y hy => ?_)
        constructor
        · rintro (z | z)
          · exact Or.inl z
          · exact Or.inr ⟨hy, z⟩
        · rintro (z | z)
          · exact Or.inl z
          · exact Or.inr z.2
      have k0 := inner (wX_orderPlan_10 post fw fp fl fk fc fg (g + 1)) b x1 (nI r) _ _ (gr_st (pd_R aO aD aN aT aL) (pd_U aL) r).2 hm4 hlen hJ 5 0 rfl a (by rw [show gr_fl _ 0 = [] from rfl, List.append_nil]; exact ha)
      rw [show gr_fl _ 0 = [] from rfl, List.append_nil] at k0
      exact k0
  exact ⟨6, key 5 0 rfl 0 tO (pd_MS0 (fun y _ z => z)) (fun i hi => absurd hi (Nat.not_lt_zero _))⟩
theorem yp_ro {post : Int32 → Prop} {x y : Nat} (hx : x < 5) (hy : y < 5) (hI : pd_I aD aT aW) (h9 : pd_9 aL) (h1 : pd_R aO aD aN aT aL x y → post 1) (h0 : ¬ pd_R aO aD aN aT aL x y → post 0) : wpY_rests post (fw, fp, fl, fk, yN, fg, yO, aO, aP, aD, aN, aT, aR, aH, aW, aG, yA, yM, yC, aL, aK, aU, aE, yR) (nI x) (nI y) := by
  obtain ⟨v, hv, ev⟩ := h9 x hx
  have et : (aL x).toNatClampNeg = v := by rw [ev, nI_clamp (by omega)]
  have he : 10 * x + v < 50 := by omega
  obtain ⟨d, hd, hD⟩ := hI.1 _ he
  have key : ∀ e, e = 10 * x + v → ∀ g i, i + g = d → (∀ k, k < i → ¬ (¬ aN (3 * e + k) = 0 ∧ aT (3 * e + k) = nI y)) → ((∃ k, k < d ∧ ¬ aN (3 * e + k) = 0 ∧ aT (3 * e + k) = nI y) → post 1) → (¬ (∃ k, k < d ∧ ¬ aN (3 * e + k) = 0 ∧ aT (3 * e + k) = nI y) → post 0) → wY_rests_51 post (nI y) (nI e) fw fp fl fk yN fg yO aO aP aD aN aT aR aH aW aG yA yM yC aL aK aU aE yR (g + 1) (nI (3 * e + i)) := by
    intro e ee
    rw [← ee] at hD he
    intro g
    induction g with
    | zero =>
      intro i hi hk h1 h0
      refine ⟨vp_in_nI he (by omega), ?_⟩
      rw [nI_clamp (by omega), hD, pd_l3]
      exact br_t (nI_le (by omega) (by omega)) (h0 (fun ⟨k, a, b⟩ => hk k (by omega) b))
    | succ g ih =>
      intro i hi hk h1 h0
      have hk5 : 3 * e + i < 150 := by omega
      refine ⟨vp_in_nI he (by omega), ?_⟩
      rw [nI_clamp (n := e) (by omega), hD, pd_l3]
      refine br_f (nI_ge (by omega) (by omega)) ?_
      rw [nI_clamp (n := 3 * e + i) (by omega)]
      refine ⟨vp_in_nI hk5 (by omega), br_c (fun z => nm_r (nI_1 _) (ih (i + 1) (by omega) ?_ h1 h0)) (fun z => ⟨vp_in_nI hk5 (by omega), br_c (fun z2 => h1 ⟨i, by omega, z, z2⟩) (fun z2 => nm_r (nI_1 _) (ih (i + 1) (by omega) ?_ h1 h0))⟩)⟩
      · intro k hk'
        by_cases q : k = i
        · subst q; exact fun a => a.1 z
        · exact hk k (by omega)
      · intro k hk'
        by_cases q : k = i
        · subst q; exact fun a => z2 a.2
        · exact hk k (by omega)
  refine ⟨vp_in_nI hx (by omega), nm_r (e' := nI (10 * x + v)) (by rw [nI_clamp (by omega), ev, pd_l10]) ?_⟩
  rw [nI_clamp (n := x) (by omega), nI_clamp (n := y) (by omega), nI_clamp (n := 10 * x + v) (by omega), nI_eq (by omega) (by omega)]
  refine br_c (fun z => h0 (fun q => q.2.2.1 z)) (fun z => ⟨vp_in_nI hx (by omega), br_c (fun z2 => h0 (fun q => q.2.2.2.1 z2)) (fun z2 => ⟨vp_in_nI hy (by omega), br_c (fun z3 => h0 (fun q => q.2.2.2.2.1 z3)) (fun z3 => ⟨vp_in_nI he (by omega), br_c (fun z4 => h0 (fun q => ?_)) (fun z4 => nm_r (e' := nI (3 * (10 * x + v) + 0)) (pk_mul 3 _) ⟨d + 1, key _ rfl d 0 (by omega) (fun k hk => absurd hk (Nat.not_lt_zero _)) (fun q => h1 ?_) (fun q => h0 (fun q2 => q ?_))⟩)⟩)⟩)⟩)
  · have := q.2.2.2.2.2.1
    rw [et] at this
    exact this z4
  · unfold pd_R
    rw [et, hD, nI_clamp (by omega)]
    exact ⟨hx, hy, z, z2, z3, z4, q⟩
  · have := q2.2.2.2.2.2.2
    rw [et, hD, nI_clamp (by omega)] at this
    exact this
theorem gr_kn (S : Nat → Prop) : ∀ n, gr_k S n ≤ n := by
  intro n
  induction n with
  | zero => exact Nat.le_refl _
  | succ n ih =>
    by_cases h : S n
    · rw [gr_kP h]; omega
    · rw [gr_kN h]; omega
theorem gr_kall {S : Nat → Prop} (h : 5 ≤ gr_k S 5) : ∀ y, y < 5 → S y := by
  intro y hy
  apply Classical.byContradiction
  intro hn
  have a := gr_klt (A := S) (A' := fun _ => True) (z := y) trivial hn 5 hy (fun _ _ _ => trivial)
  have b := gr_kn (fun _ => True) 5
  omega
theorem yp_be {post : Int32 → Prop} {x : Nat} (hx : x < 5) (hI : pd_I aD aT aW) (h9 : pd_9 aL) (h : ∀ m, pd_MS m (gr_B (pd_R aO aD aN aT aL) 5 x) → post m) : wpY_below post (fw, fp, fl, fk, yN, fg, yO, aO, aP, aD, aN, aT, aR, aH, aW, aG, yA, yM, yC, aL, aK, aU, aE, yR) (nI x) := by
  have inner : ∀ (J : Int32 → Int32 → Prop) (x3 : Int32) (S0 : Nat → Prop),
      (∀ m S, pd_MS m S → (∀ y, y < 5 → S0 y → S y) → (∀ y, y < 5 → S y → gr_B (pd_R aO aD aN aT aL) 5 x y) → ((∀ a b, a < 5 → b < 5 → (a = x ∨ S0 a) → pd_R aO aD aN aT aL a b → S0 b) → ∀ y, y < 5 → S y → S0 y) → ((∀ y, y < 5 → S y → S0 y) → ∀ a b, a < 5 → b < 5 → (a = x ∨ S0 a) → pd_R aO aD aN aT aL a b → S0 b) → J m (x3 + 1)) →
      ∀ g e, e + g = 25 → ∀ m S, pd_MS m S → (∀ y, y < 5 → S0 y → S y) → (∀ y, y < 5 → S y → gr_B (pd_R aO aD aN aT aL) 5 x y) → ((∀ a b, a < 5 → b < 5 → (a = x ∨ S0 a) → pd_R aO aD aN aT aL a b → S0 b) → ∀ y, y < 5 → S y → S0 y) → ((∀ y, y < 5 → S y → S0 y) → ∀ a b, a < 5 → b < 5 → 5 * a + b < e → (a = x ∨ S0 a) → pd_R aO aD aN aT aL a b → S0 b) → wY_below_12 post J (nI x) x3 fw fp fl fk yN fg yO aO aP aD aN aT aR aH aW aG yA yM yC aL aK aU aE yR (g + 1) m (nI e) := by
    intro J x3 S0 hJ g
    induction g with
    | zero =>
      intro e he m S hm i1 i2 i3 i4
      have e5 : e = 25 := by omega
      subst e5
      exact br_t (by decide) (nm_e (hJ m S hm i1 i2 i3 (fun z a b ha hb => i4 z a b ha hb (by omega))))
    | succ g ih =>
      intro e he m S hm i1 i2 i3 i4
      have ha5 : e / 5 < 5 := by omega
      have hb5 : e % 5 < 5 := by omega
      have ed : nI e / 5 = nI (e / 5) := pk_div (d := 5) (by omega) (by omega) (by omega)
      have em : nI e - nI e / 5 * 5 = nI (e % 5) := pk_rem (d := 5) (by omega) (by omega) (by omega)
      have yes : (e / 5 = x ∨ S (e / 5)) → wY_below_41 post J (wY_below_12 post J (nI x) x3 fw fp fl fk yN fg yO aO aP aD aN aT aR aH aW aG yA yM yC aL aK aU aE yR (g + 1)) (nI x) m x3 (nI e) (nI (e / 5)) fw fp fl fk yN fg yO aO aP aD aN aT aR aH aW aG yA yM yC aL aK aU aE yR := by
        intro hor
        refine ⟨by decide, ?_⟩
        rw [em]
        refine yp_ro ha5 hb5 hI h9 (fun hR => br_f (by decide) ⟨by decide, nm_e (nm_r (nI_1 e) (ih (e + 1) (by omega) _ _ (pd_MSo hm (pd_MS1 hb5)) ?_ ?_ ?_ ?_))⟩) (fun hR => br_t rfl (nm_r (nI_1 e) (ih (e + 1) (by omega) m S hm i1 i2 i3 ?_)))
        · intro y hy z
          exact Or.inl (i1 y hy z)
        · rintro y hy (z | z)
          · exact i2 y hy z
          · subst z
            rcases hor with q | q
            · rw [q] at hR; exact gr_R hR 5
            · exact gr_tr 5 x (e / 5) _ ha5 (i2 _ ha5 q) (gr_R hR 5)
        · rintro hc y hy (z | z)
          · exact i3 hc y hy z
          · subst z
            refine hc (e / 5) (e % 5) ha5 hb5 ?_ hR
            rcases hor with q | q
            · exact Or.inl q
            · exact Or.inr (i3 hc _ ha5 q)
        · intro hs a b ha hb hab hor2 hR2
          by_cases q : 5 * a + b < e
          · exact i4 (fun y hy z => hs y hy (Or.inl z)) a b ha hb q hor2 hR2
          · exact hs b hb (Or.inr (by omega))
        · intro hs a b ha hb hab hor2 hR2
          by_cases q : 5 * a + b < e
          · exact i4 hs a b ha hb q hor2 hR2
          · have e1 : a = e / 5 := by omega
            have e2 : b = e % 5 := by omega
            subst e1 e2
            exact absurd hR2 hR
      refine br_f (nI_ge (b := 25) (by omega) (by decide)) ⟨by decide, nm_r ed ?_⟩
      rw [nI_eq (by omega) (by omega), pd_MSb1 hm ha5]
      refine br_c (fun z => yes (Or.inl z)) (fun z => br_c (fun z2 => yes (Or.inr z2)) (fun z2 => nm_r (nI_1 e) (ih (e + 1) (by omega) m S hm i1 i2 i3 ?_)))
      intro hs a b ha hb hab hor2 hR2
      by_cases q : 5 * a + b < e
      · exact i4 hs a b ha hb q hor2 hR2
      · have e1 : a = e / 5 := by omega
        subst e1
        rcases hor2 with w | w
        · exact absurd w z
        · exact absurd (i1 _ ha5 w) z2
  have key : ∀ g r, r + g = 5 → ∀ m S, pd_MS m S → (∀ y, y < 5 → S y → gr_B (pd_R aO aD aN aT aL) 5 x y) → ((∀ a b, a < 5 → b < 5 → (a = x ∨ S a) → pd_R aO aD aN aT aL a b → S b) ∨ r ≤ gr_k S 5) → wY_below_4 post (nI x) fw fp fl fk yN fg yO aO aP aD aN aT aR aH aW aG yA yM yC aL aK aU aE yR (g + 1) m (nI r) := by
    intro g
    induction g with
    | zero =>
      intro r hr m S hm i1 i2
      have e : r = 5 := by omega
      subst e
      have hc : ∀ a b, a < 5 → b < 5 → (a = x ∨ S a) → pd_R aO aD aN aT aL a b → S b := by
        rcases i2 with i2 | i2
        · exact i2
        · intro a b ha hb _ _; exact gr_kall i2 b hb
      refine br_t (by decide) (h m (pd_MSc hm (fun y hy => ⟨i1 y hy, fun z => ?_⟩)))
      have := gr_least (R := pd_R aO aD aN aT aL) (S := fun y => y < 5 ∧ S y) (x0 := x) (fun a b hab hR => ⟨hR.2.1, hc a b hR.1 hR.2.1 (hab.elim Or.inl (fun q => Or.inr q.2)) hR⟩) 5 x y (Or.inl rfl) z
      exact this.2
    | succ g ih =>
      intro r hr m S hm i1 i2
      refine br_f (lt5' r (by omega)) ⟨26, inner _ (nI r) S (fun m' S' hm' j1 j2 j3 j4 => ?_) 25 0 rfl m S hm (fun _ _ z => z) i1 (fun _ _ _ z => z) (fun _ a b _ _ hab => absurd hab (Nat.not_lt_zero _))⟩
      rw [nI_1]
      refine ih (r + 1) (by omega) m' S' hm' j2 ?_
      by_cases cl : ∀ a b, a < 5 → b < 5 → (a = x ∨ S a) → pd_R aO aD aN aT aL a b → S b
      · refine Or.inl (fun a b ha hb hor hR => j1 b hb (cl a b ha hb ?_ hR))
        rcases hor with q | q
        · exact Or.inl q
        · exact Or.inr (j3 cl a ha q)
      · refine Or.inr ?_
        have hne : ∃ y, y < 5 ∧ S' y ∧ ¬ S y := by
          apply Classical.byContradiction
          intro hn
          apply cl
          refine j4 (fun y hy z => ?_)
          apply Classical.byContradiction
          intro w
          exact hn ⟨y, hy, z, w⟩
        obtain ⟨y, hy, a, b⟩ := hne
        have := gr_klt (A := S) (A' := S') (z := y) a b 5 hy j1
        rcases i2 with i2 | i2
        · exact absurd i2 cl
        · omega
  exact ⟨6, key 5 0 rfl 0 (fun _ => False) (pd_MS0 (fun y _ z => z)) (fun y _ z => False.elim z) (Or.inr (Nat.zero_le _))⟩
theorem yp_gp {post : Int32 → Prop} {x : Nat} (hx : x < 5) (hI : pd_I aD aT aW) (h9 : pd_9 aL) (h : ∀ g, pd_MS g (gr_G (pd_R aO aD aN aT aL) x) → post g) : wpY_group post (fw, fp, fl, fk, yN, fg, yO, aO, aP, aD, aN, aT, aR, aH, aW, aG, yA, yM, yC, aL, aK, aU, aE, yR) (nI x) := by
  have key : ∀ g q, q + g = 5 → ∀ m, pd_MS m (fun y => y = x ∨ (y < q ∧ gr_B (pd_R aO aD aN aT aL) 5 x y ∧ gr_B (pd_R aO aD aN aT aL) 5 y x)) → wY_group_6 post (nI x) fw fp fl fk yN fg yO aO aP aD aN aT aR aH aW aG yA yM yC aL aK aU aE yR (g + 1) m (nI q) := by
    intro g
    induction g with
    | zero =>
      intro q hq m hm
      have e : q = 5 := by omega
      subst e
      refine br_t (by decide) (h m (pd_MSc hm (fun y hy => ?_)))
      constructor
      · rintro (a | a)
        · exact Or.inl a
        · exact Or.inr a.2
      · rintro (a | a)
        · exact Or.inl a
        · exact Or.inr ⟨hy, a⟩
    | succ g ih =>
      intro q hq m hm
      have hq5 : q < 5 := by omega
      have nx : ¬ (gr_B (pd_R aO aD aN aT aL) 5 x q ∧ gr_B (pd_R aO aD aN aT aL) 5 q x) → wY_group_6 post (nI x) fw fp fl fk yN fg yO aO aP aD aN aT aR aH aW aG yA yM yC aL aK aU aE yR (g + 1) m (nI (q + 1)) := by
        intro z
        refine ih (q + 1) (by omega) m (pd_MSc hm (fun y hy => ?_))
        constructor
        · rintro (a | ⟨a, b⟩)
          · exact Or.inl a
          · exact Or.inr ⟨by omega, b⟩
        · rintro (a | ⟨a, b⟩)
          · exact Or.inl a
          · by_cases e : y = q
            · subst e; exact absurd b z
            · exact Or.inr ⟨by omega, b⟩
      refine br_f (lt5' q hq5) (yp_be hx hI h9 (fun m1 hm1 => ?_))
      rw [pd_MSb1 hm1 hq5]
      refine br_c (fun z => yp_be hq5 hI h9 (fun m2 hm2 => ?_)) (fun z => nm_r (nI_1 q) (nx (fun a => z a.1)))
      rw [pd_MSb1 hm2 hx]
      refine br_c (fun z2 => nm_e (nm_r (nI_1 q) (ih (q + 1) (by omega) _ (pd_MSc (pd_MSo hm (pd_MS1 hq5)) (fun y hy => ?_))))) (fun z2 => nm_r (nI_1 q) (nx (fun a => z2 a.2)))
      constructor
      · rintro ((a | ⟨a, b⟩) | a)
        · exact Or.inl a
        · exact Or.inr ⟨by omega, b⟩
        · subst a; exact Or.inr ⟨by omega, z, z2⟩
      · rintro (a | ⟨a, b⟩)
        · exact Or.inl (Or.inl a)
        · by_cases e : y = q
          · exact Or.inr e
          · exact Or.inl (Or.inr ⟨by omega, b⟩)
  refine nm_e ⟨6, key 5 0 rfl _ (pd_MSc (pd_MS1 hx) (fun y hy => ?_))⟩
  constructor
  · exact Or.inl
  · rintro (a | a)
    · exact a
    · exact absurd a.1 (Nat.not_lt_zero _)
