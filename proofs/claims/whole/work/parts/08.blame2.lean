/-! blame: the least set that no sound choice meets -/
variable {fw fp fl fk fc fg yN yO : Int32} {aV aO aP aD aN aT aR aH aW aG aL aK aU aE tA tM tB tO tS yA yM yC yR : Nat → Int32}
def pd_lt (a b : Nat) : Prop := pd_b a 4 < pd_b b 4 ∨ (pd_b a 4 = pd_b b 4 ∧ a < b)
def pd_Be (w : Nat) (aO aP aD aN aT aR aH aW aG : Nat → Int32) (r : Nat) : Prop := 1 ≤ r ∧ r ≤ 2 ^ w - 1 ∧ ¬ pd_CM w aO aP aD aN aT aR aH aW aG (nI r) ∧ ∀ s, 1 ≤ s → s ≤ 2 ^ w - 1 → ¬ pd_CM w aO aP aD aN aT aR aH aW aG (nI s) → ¬ pd_lt s r
theorem pd_Beu {w r r' : Nat} (h : pd_Be w aO aP aD aN aT aR aH aW aG r) (h' : pd_Be w aO aP aD aN aT aR aH aW aG r') : r = r' := by
  have a := h.2.2.2 r' h'.1 h'.2.1 h'.2.2.1
  have b := h'.2.2.2 r h.1 h.2.1 h.2.2.1
  unfold pd_lt at a b
  omega
theorem pd_b4 : ∀ w, w ≤ 4 → ∀ s, s < 16 → s < 2 ^ w - 1 → pd_b s 4 < pd_b (2 ^ w - 1) 4 := by decide +kernel
theorem pd_b15 : ∀ w, w ≤ 4 → pd_b (2 ^ w - 1) 4 ≤ pd_b 15 4 := by decide +kernel
theorem pd_bb : ∀ s, s < 16 → pd_b s 4 ≤ 4 := by decide +kernel
theorem pd_sub16 {a b : Nat} : a &&& b = b ↔ ∀ k, b.testBit k = true → a.testBit k = true := by
  constructor
  · intro h k hk
    rw [← h, Nat.testBit_and, Bool.and_eq_true] at hk
    exact hk.1
  · intro h
    apply Nat.eq_of_testBit_eq
    intro k
    rw [Nat.testBit_and]
    cases z : b.testBit k
    · rw [Bool.and_false]
    · rw [h k z]; rfl
theorem pd_CMi {w s : Nat} (hw4 : w ≤ 4) (hs : s < 2 ^ w) : (∃ s', s' < 16 ∧ pd_EX w aO aP aD aN aT aR aH aW aG (pd_T aO) s' ∧ nI s' &&& nI s = nI s) ↔ pd_CM w aO aP aD aN aT aR aH aW aG (nI s) := by
  have h16 : 2 ^ w ≤ 2 ^ 4 := Nat.pow_le_pow_right (by decide) hw4
  constructor
  · rintro ⟨s', hs', ⟨i, hi, a, e⟩, b⟩
    refine ⟨i, hi, a, ?_⟩
    rw [nx_and, nI_eq (Nat.lt_of_le_of_lt Nat.and_le_left (by omega)) (by omega), pd_sub16] at b
    intro k hk hb
    rw [pd_btn s (by omega)] at hb
    have := b k hb
    rw [← e, pd_mtb _ w k hk] at this
    exact this
  · rintro ⟨i, hi, a, b⟩
    have hm := pd_mlt (pd_w aH aW aG (pd_ci aO i)) w
    refine ⟨pd_m (pd_w aH aW aG (pd_ci aO i)) w, by omega, ⟨i, hi, a, rfl⟩, ?_⟩
    rw [nx_and, nI_eq (Nat.lt_of_le_of_lt Nat.and_le_left (by omega)) (by omega), pd_sub16]
    intro k hk
    by_cases hkw : k < w
    · rw [pd_mtb _ w k hkw]
      exact b k hkw (by rw [pd_btn s (by omega)]; exact hk)
    · have : s.testBit k = false := Nat.testBit_lt_two_pow (Nat.lt_of_lt_of_le hs (Nat.pow_le_pow_right (by decide) (by omega)))
      rw [this] at hk
      cases hk
theorem pd_CM15 {w : Nat} (hw4 : w ≤ 4) : pd_EX w aO aP aD aN aT aR aH aW aG (pd_T aO) (2 ^ w - 1) ↔ pd_CM w aO aP aD aN aT aR aH aW aG 15 := by
  constructor
  · rintro ⟨i, hi, a, e⟩
    rw [pd_mall] at e
    exact ⟨i, hi, a, fun k hk _ => e k hk⟩
  · rintro ⟨i, hi, a, e⟩
    exact ⟨i, hi, a, (pd_mall _ _).mpr (fun k hk => e k hk (pd_15 k (by omega)))⟩
theorem pd_CMall {w : Nat} (hw4 : w ≤ 4) : pd_CM w aO aP aD aN aT aR aH aW aG (nI (2 ^ w - 1)) → pd_CM w aO aP aD aN aT aR aH aW aG 15 := by
  have hp : 0 < 2 ^ w := Nat.two_pow_pos w
  have h16 : 2 ^ w ≤ 2 ^ 4 := Nat.pow_le_pow_right (by decide) hw4
  rintro ⟨i, hi, a, e⟩
  refine ⟨i, hi, a, fun k hk _ => e k hk ?_⟩
  rw [pd_btn _ (by omega), Nat.testBit_two_pow_sub_one, decide_eq_true hk]
theorem pd_S0 : pd_S aP aD aN aT aR (pd_ci aO 0) := fun p _ h => absurd (pd_ci0 aO p) h
theorem pd_CM0 : pd_CM 0 aO aP aD aN aT aR aH aW aG 15 := ⟨0, pd_Tpos aO, pd_S0, fun k hk => absurd hk (Nat.not_lt_zero _)⟩
theorem xp_blameL {post : Int32 → SX → Prop} {w : Nat} (hw4 : w ≤ 4) (hM : ∀ s, s < 16 → (¬ tM s = 0 ↔ pd_EX w aO aP aD aN aT aR aH aW aG (pd_T aO) s))
    (h : ∀ r, pd_Be w aO aP aD aN aT aR aH aW aG r → post (nI r) (fw, fp, fl, fk, fc, fg, aV, aO, aP, aD, aN, aT, aR, aH, aW, aG, aL, aK, aU, aE, tA, tM, tB, tO, tS)) :
    ∀ g s l, s + g = 2 ^ w - 1 → 1 ≤ s → 1 ≤ l → l ≤ 2 ^ w - 1 → ¬ pd_CM w aO aP aD aN aT aR aH aW aG (nI l) → (l = 2 ^ w - 1 ∨ l < s) → (∀ u, 1 ≤ u → (u < s ∨ u = 2 ^ w - 1) → ¬ pd_CM w aO aP aD aN aT aR aH aW aG (nI u) → ¬ pd_lt u l) → wX_blame_29 post (nI (2 ^ w - 1)) fw fp fl fk fc fg aV aO aP aD aN aT aR aH aW aG aL aK aU aE tA tM tB tO tS (g + 1) (nI l) (nI s) := by
  have h16 : 2 ^ w ≤ 2 ^ 4 := Nat.pow_le_pow_right (by decide) hw4
  have hp : 0 < 2 ^ w := Nat.two_pow_pos w
  intro g
  induction g with
  | zero =>
    intro s l hg hs hl1 hl2 hl3 hl4 hu
    refine br_t (nI_le (by omega) (by omega)) (h l ⟨hl1, hl2, hl3, fun u a b c => hu u a ?_ c⟩)
    omega
  | succ g ih =>
    intro s l hg hs hl1 hl2 hl3 hl4 hu
    have hbs := pd_bb s (by omega)
    have hbl := pd_bb l (by omega)
    have hall := pd_b4 w hw4 s (by omega) (by omega)
    have hCM : (∃ s', s' < 16 ∧ ¬ tM s' = 0 ∧ nI s' &&& nI s = nI s) ↔ pd_CM w aO aP aD aN aT aR aH aW aG (nI s) := by
      rw [← pd_CMi hw4 (show s < 2 ^ w by omega)]
      constructor
      · rintro ⟨a, b, c, d⟩; exact ⟨a, b, (hM a b).mp c, d⟩
      · rintro ⟨a, b, c, d⟩; exact ⟨a, b, (hM a b).mpr c, d⟩
    refine br_f (nI_ge (by omega) (by omega)) (xp_cb (by omega) (xp_cb (by omega) ?_))
    refine pk_le (pd_b l 4) (pd_b s 4) (fun z => nm_r (nI_1 s) (ih (s + 1) l (by omega) (by omega) hl1 hl2 hl3 (by omega) ?_)) (fun z => xp_cm (fun y => br_f (by decide) (nm_r (nI_1 s) (ih (s + 1) l (by omega) (by omega) hl1 hl2 hl3 (by omega) ?_))) (fun y => br_t rfl (nm_r (nI_1 s) (ih (s + 1) s (by omega) (by omega) hs (by omega) (fun q => y (hCM.mpr q)) (by omega) ?_)))) rfl rfl (by omega) (by omega)
    · intro u a b c
      by_cases q : u = s
      · subst q
        unfold pd_lt
        rcases hl4 with e | e
        · rw [e] at z ⊢
          omega
        · omega
      · exact hu u a (by omega) c
    · intro u a b c
      by_cases q : u = s
      · subst q; exact absurd (hCM.mp y) c
      · exact hu u a (by omega) c
    · intro u a b c
      by_cases q : u = s
      · subst q; unfold pd_lt; omega
      · have := hu u a (by omega) c
        unfold pd_lt at this ⊢
        omega
theorem xp_blame {post : Int32 → SX → Prop} {w : Nat} (hw : fw = nI w) (hw4 : w ≤ 4) (hI : pd_I aD aT aW) (h4 : pd_4 aO) (hV : pd_V aV aO)
    (hC : pd_CM w aO aP aD aN aT aR aH aW aG 15 → ∀ t M, post (-4) (fw, fp, fl, fk, fc, fg, aV, aO, aP, aD, aN, aT, aR, aH, aW, aG, aL, aK, aU, aE, t, M, tB, tO, tS)) (hB : ¬ pd_CM w aO aP aD aN aT aR aH aW aG 15 → ∀ r, pd_Be w aO aP aD aN aT aR aH aW aG r → ∀ t M, post (nI r) (fw, fp, fl, fk, fc, fg, aV, aO, aP, aD, aN, aT, aR, aH, aW, aG, aL, aK, aU, aE, t, M, tB, tO, tS)) : wpX_blame post (fw, fp, fl, fk, fc, fg, aV, aO, aP, aD, aN, aT, aR, aH, aW, aG, aL, aK, aU, aE, tA, tM, tB, tO, tS) := by
  have h16 : 2 ^ w ≤ 2 ^ 4 := Nat.pow_le_pow_right (by decide) hw4
  have hp : 0 < 2 ^ w := Nat.two_pow_pos w
  have e : ((1 : Int32) <<< (fw &&& 31)) - 1 = nI (2 ^ w - 1) := by
    rw [hw, pd_shl1 (by omega)]
    exact pk_sub (b := 1) hp
  unfold wpX_blame
  refine xp_note hw hw4 hI h4 hV (fun t M hM => nm_r e ⟨vp_in_nI (by omega) (by omega), ?_⟩)
  rw [nI_clamp (n := 2 ^ w - 1) (by omega)]
  have hA := (hM (2 ^ w - 1) (by omega)).trans (pd_CM15 hw4)
  refine br_c (fun z => ?_) (fun z => hC (hA.mp z) t M)
  have hn : ¬ pd_CM w aO aP aD aN aT aR aH aW aG 15 := fun q => hA.mpr q z
  have hw1 : 1 ≤ w := by
    cases w with
    | zero => exact absurd pd_CM0 hn
    | succ w => omega
  have h2 : 2 ^ 1 ≤ 2 ^ w := Nat.pow_le_pow_right (by decide) hw1
  refine ⟨_, xp_blameL hw4 hM (fun r hr => hB hn r hr t M) (2 ^ w - 1 - 1) 1 (2 ^ w - 1) (by omega) (by omega) (by omega) (by omega) (fun q => hn (pd_CMall hw4 q)) (Or.inl rfl) ?_⟩
  intro u a b c
  have : u = 2 ^ w - 1 := by omega
  subst this
  unfold pd_lt
  omega
theorem yp_blameL {post : Int32 → SY → Prop} {w : Nat} (hw : fw = nI w) (hw4 : w ≤ 4) (hI : pd_I aD aT aW) (h4 : pd_4 aO) (hO : pd_Op aO yA yM)
    (h : ∀ r, pd_Be w aO aP aD aN aT aR aH aW aG r → ∀ c, post (nI r) (fw, fp, fl, fk, yN, fg, yO, aO, aP, aD, aN, aT, aR, aH, aW, aG, yA, yM, c, aL, aK, aU, aE, yR)) :
    ∀ s b c, s < 2 ^ w - 1 → 1 ≤ b → b ≤ 2 ^ w - 1 → ¬ pd_CM w aO aP aD aN aT aR aH aW aG (nI b) → s < b → (∀ u, s < u → u ≤ 2 ^ w - 1 → ¬ pd_CM w aO aP aD aN aT aR aH aW aG (nI u) → ¬ pd_lt u b) → wY_blame_26 post (s + 1) (nI b) (nI s) fw fp fl fk yN fg yO aO aP aD aN aT aR aH aW aG yA yM c aL aK aU aE yR := by
  have h16 : 2 ^ w ≤ 2 ^ 4 := Nat.pow_le_pow_right (by decide) hw4
  have hp : 0 < 2 ^ w := Nat.two_pow_pos w
  have e1 : (1 : Int32) <<< (fw &&& 31) = nI (2 ^ w) := by rw [hw, pd_shl1 (by omega)]
  intro s
  induction s with
  | zero =>
    intro b c hs hb1 hb2 hb3 hb4 hu
    exact br_t (nI_le (a := 0) (b := 0) (by omega) (by omega)) (h b ⟨hb1, hb2, hb3, fun u a => hu u (by omega)⟩ c)
  | succ s ih =>
    intro b c hs hb1 hb2 hb3 hb4 hu
    have hbs := pd_bb (s + 1) (by omega)
    have hbl := pd_bb b (by omega)
    refine br_f (nI_nle (by omega) (by omega)) ?_
    rw [e1]
    refine br_f (nI_ge (by omega) (by omega)) (yp_bi (by omega) (yp_bi (by omega) ?_))
    refine pk_lt (pd_b b 4) (pd_b (s + 1) 4) (fun z => ?_) (fun z => ?_) rfl rfl (by omega) (by omega)
    · refine br_t rfl (nm_r (pk_m1 s) (ih b c (by omega) hb1 hb2 hb3 (by omega) ?_))
      intro u a d f
      by_cases q : u = s + 1
      · subst q; unfold pd_lt; omega
      · exact hu u (by omega) d f
    · refine br_f (by decide) (yp_cbm hw hw4 hI h4 hO (fun y c => br_f (by decide) (nm_r (pk_m1 s) (ih b c (by omega) hb1 hb2 hb3 (by omega) ?_))) (fun y c => br_t rfl (nm_r (pk_m1 s) (ih (s + 1) c (by omega) (by omega) (by omega) y (by omega) ?_))))
      · intro u a d f
        by_cases q : u = s + 1
        · subst q; exact absurd y f
        · exact hu u (by omega) d f
      · intro u a d f
        by_cases q : u = s + 1
        · subst q; unfold pd_lt; omega
        · have := hu u (by omega) d f
          unfold pd_lt at this ⊢
          omega
theorem yp_blame {post : Int32 → SY → Prop} {w : Nat} (hw : fw = nI w) (hw4 : w ≤ 4) (hI : pd_I aD aT aW) (h4 : pd_4 aO)
    (hC : pd_CM w aO aP aD aN aT aR aH aW aG 15 → ∀ a m c, post (-4) (fw, fp, fl, fk, yN, fg, yO, aO, aP, aD, aN, aT, aR, aH, aW, aG, a, m, c, aL, aK, aU, aE, yR)) (hB : ¬ pd_CM w aO aP aD aN aT aR aH aW aG 15 → ∀ r, pd_Be w aO aP aD aN aT aR aH aW aG r → ∀ a m c, post (nI r) (fw, fp, fl, fk, yN, fg, yO, aO, aP, aD, aN, aT, aR, aH, aW, aG, a, m, c, aL, aK, aU, aE, yR)) : wpY_blame post (fw, fp, fl, fk, yN, fg, yO, aO, aP, aD, aN, aT, aR, aH, aW, aG, yA, yM, yC, aL, aK, aU, aE, yR) := by
  have h16 : 2 ^ w ≤ 2 ^ 4 := Nat.pow_le_pow_right (by decide) hw4
  have hp : 0 < 2 ^ w := Nat.two_pow_pos w
  have e1 : (1 : Int32) <<< (fw &&& 31) = nI (2 ^ w) := by rw [hw, pd_shl1 (by omega)]
  unfold wpY_blame
  refine yp_list h4 (fun a m hO => yp_cbm hw hw4 hI h4 hO (fun y c => br_f (by decide) (hC y a m c)) (fun hn c => br_t rfl (nm_r e1 ⟨2 ^ w + 1, ?_⟩)))
  have hw1 : 1 ≤ w := by
    cases w with
    | zero => exact absurd pd_CM0 hn
    | succ w => omega
  have h2 : 2 ^ 1 ≤ 2 ^ w := Nat.pow_le_pow_right (by decide) hw1
  have hN : ¬ pd_CM w aO aP aD aN aT aR aH aW aG (nI (2 ^ w - 1)) := fun q => hn (pd_CMall hw4 q)
  have hb := pd_b15 w hw4
  have hb15 : pd_b 15 4 = 4 := by decide
  refine br_f (nI_nle hp (by omega)) ?_
  rw [e1]
  refine br_t (nI_le (Nat.le_refl _) (by omega)) (br_t rfl (nm_r (e' := nI (2 ^ w - 1)) ?_ ?_))
  · rw [show 2 ^ w = (2 ^ w - 1) + 1 by omega, pk_m1]; rfl
  obtain ⟨f, hf⟩ : ∃ f, 2 ^ w = f + 1 := ⟨2 ^ w - 1, by omega⟩
  rw [show 2 ^ w - 1 = f by omega] at hN hb ⊢
  rw [hf]
  refine br_f (nI_nle (by omega) (by omega)) ?_
  rw [e1]
  refine br_f (nI_ge (by omega) (by omega)) (yp_bi (s := f) (by omega) (yp_bi (s := 15) (by omega) (br_f (nI_nlt hb (by omega)) ?_)))
  refine br_f (by decide) (yp_cbm hw hw4 hI h4 hO (fun y c => absurd y hN) (fun y c => br_t rfl (nm_r (e' := nI (f - 1)) ?_ ?_)))
  · rw [show f = (f - 1) + 1 by omega, pk_m1]; rfl
  have fin := yp_blameL hw hw4 hI h4 hO (fun r hr c => hB hn r hr a m c) (f - 1) f c (by omega) (by omega) (by omega) hN (by omega) (fun u p q r => by
    have : u = f := by omega
    subst this
    unfold pd_lt
    omega)
  rw [show f - 1 + 1 = f by omega] at fin
  exact fin
