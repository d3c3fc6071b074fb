/-! blame -/
variable {fw fp fl fk fc fg yN yO : Int32} {aV aO aP aD aN aT aR aH aW aG aL aK aU aE tA tM tB tO tS yA yM yC yR : Nat → Int32}
def pd_CM (w : Nat) (aO aP aD aN aT aR aH aW aG : Nat → Int32) (x : Int32) : Prop := ∃ i, i < pd_T aO ∧ pd_S aP aD aN aT aR (pd_ci aO i) ∧ ∀ k, k < w → bt x k = true → pd_w aH aW aG (pd_ci aO i) k = true
def pd_EX (w : Nat) (aO aP aD aN aT aR aH aW aG : Nat → Int32) (n s : Nat) : Prop := ∃ i, i < n ∧ pd_S aP aD aN aT aR (pd_ci aO i) ∧ pd_m (pd_w aH aW aG (pd_ci aO i)) w = s
theorem pd_nb0 : vp_nar .boolean 0 = 0 := by decide +kernel
theorem pd_nb1 : vp_nar .boolean 1 = 1 := by decide +kernel
theorem pd_btn (n : Nat) {k : Nat} (hk : k < 32) : bt (nI n) k = n.testBit k := by
  show (BitVec.ofNat 32 n).getLsbD k = _
  rw [BitVec.getLsbD_ofNat, decide_eq_true hk, Bool.true_and]
theorem xp_noteL {post : SX → Prop} {w : Nat} (hw : fw = nI w) (hw4 : w ≤ 4) (hI : pd_I aD aT aW) (h4 : pd_4 aO)
    (h : ∀ t M, (∀ s, s < 16 → (¬ M s = 0 ↔ pd_EX w aO aP aD aN aT aR aH aW aG (pd_T aO) s)) → post (fw, fp, fl, fk, fc, fg, aV, aO, aP, aD, aN, aT, aR, aH, aW, aG, aL, aK, aU, aE, t, M, tB, tO, tS)) :
    ∀ g i, i + g = pd_T aO → ∀ t M, (∀ p, p < 5 → t p = pd_ci aO i p) → (∀ s, s < 16 → (¬ M s = 0 ↔ pd_EX w aO aP aD aN aT aR aH aW aG i s)) → wX_noteMetSets_32 post (nI (pd_T aO)) (g + 1) (nI i) fw fp fl fk fc fg aV aO aP aD aN aT aR aH aW aG aL aK aU aE t M tB tO tS := by
  have hT := pd_T3125 h4
  have h16 : 2 ^ w ≤ 2 ^ 4 := Nat.pow_le_pow_right (by decide) hw4
  intro g
  induction g with
  | zero =>
    intro i hi t M ht hM
    have e : i = pd_T aO := by omega
    subst e
    exact br_t (nI_le (by omega) (by omega)) (h t M hM)
  | succ g ih =>
    intro i hi t M ht hM
    have si := pd_Si (aP := aP) (aN := aN) (aR := aR) hI (pd_tr9 ht) ht
    have em : pd_m (pd_w aH aW aG t) w = pd_m (pd_w aH aW aG (pd_ci aO i)) w := pd_mc w (fun k hk => pd_wc (hI.2.2 k (by omega)) ht)
    have hm := pd_mlt (pd_w aH aW aG (pd_ci aO i)) w
    have hm16 : pd_m (pd_w aH aW aG (pd_ci aO i)) w < 16 := by omega
    refine br_f (nI_ge (show i < pd_T aO by omega) (by omega)) (xp_mw_trial hw hw4 hI ?_)
    rw [em, nI_clamp (n := pd_m (pd_w aH aW aG (pd_ci aO i)) w) (by omega)]
    refine ⟨vp_in_nI hm16 (by omega), br_c (fun z => xp_snd_trial hI (pd_tr9 ht) (fun s => br_f (by decide) ⟨vp_in_nI hm16 (by omega), nm_e ?_⟩) (fun s => br_t rfl ?_)) (fun z => ?_)⟩
    · refine xp_nt ht (fun t' ht' => nm_r (nI_1 i) (ih (i + 1) (by omega) t' _ ht' ?_))
      intro s' hs'
      by_cases y : s' = pd_m (pd_w aH aW aG (pd_ci aO i)) w
      · subst y
        rw [pk_us, pd_nb1]
        exact ⟨fun _ => ⟨i, by omega, si.mp s, rfl⟩, fun _ => by decide⟩
      · rw [pk_un y, hM s' hs']
        constructor
        · rintro ⟨k, hk, a, b⟩
          exact ⟨k, by omega, a, b⟩
        · rintro ⟨k, hk, a, b⟩
          by_cases x : k = i
          · subst x; exact absurd b.symm y
          · exact ⟨k, by omega, a, b⟩
    · refine xp_nt ht (fun t' ht' => nm_r (nI_1 i) (ih (i + 1) (by omega) t' M ht' ?_))
      intro s' hs'
      rw [hM s' hs']
      constructor
      · rintro ⟨k, hk, a, b⟩
        exact ⟨k, by omega, a, b⟩
      · rintro ⟨k, hk, a, b⟩
        by_cases x : k = i
        · subst x; exact absurd (si.mpr a) s
        · exact ⟨k, by omega, a, b⟩
    · refine xp_nt ht (fun t' ht' => nm_r (nI_1 i) (ih (i + 1) (by omega) t' M ht' ?_))
      intro s' hs'
      rw [hM s' hs']
      constructor
      · rintro ⟨k, hk, a, b⟩
        exact ⟨k, by omega, a, b⟩
      · rintro ⟨k, hk, a, b⟩
        by_cases x : k = i
        · subst x
          rw [← b, ← hM _ hm16]
          exact z
        · exact ⟨k, by omega, a, b⟩
theorem xp_note {post : SX → Prop} {w : Nat} (hw : fw = nI w) (hw4 : w ≤ 4) (hI : pd_I aD aT aW) (h4 : pd_4 aO) (hV : pd_V aV aO)
    (h : ∀ t M, (∀ s, s < 16 → (¬ M s = 0 ↔ pd_EX w aO aP aD aN aT aR aH aW aG (pd_T aO) s)) → post (fw, fp, fl, fk, fc, fg, aV, aO, aP, aD, aN, aT, aR, aH, aW, aG, aL, aK, aU, aE, t, M, tB, tO, tS)) : wpX_noteMetSets post (fw, fp, fl, fk, fc, fg, aV, aO, aP, aD, aN, aT, aR, aH, aW, aG, aL, aK, aU, aE, tA, tM, tB, tO, tS) := by
  have key : ∀ g i, i + g = 16 → ∀ M : Nat → Int32, (∀ s, s < i → M s = 0) → wX_noteMetSets_2 post fw fp fl fk fc fg (g + 1) (nI i) aV aO aP aD aN aT aR aH aW aG aL aK aU aE tA M tB tO tS := by
    intro g
    induction g with
    | zero =>
      intro i hi M hM
      have e : i = 16 := by omega
      subst e
      refine br_t (by decide) (xp_cc hV (xp_st (fun t ht => ⟨_, xp_noteL hw hw4 hI h4 h (pd_T aO) 0 (by omega) t M ht ?_⟩)))
      intro s hs
      exact ⟨fun y => absurd (hM s hs) y, fun ⟨k, hk, _⟩ => absurd hk (Nat.not_lt_zero _)⟩
    | succ g ih =>
      intro i hi M hM
      have hi6 : i < 16 := by omega
      refine br_f (nI_ge (b := 16) hi6 (by decide)) ⟨vp_in_nI hi6 (by omega), ?_⟩
      rw [nI_clamp (n := i) (by omega)]
      refine nm_e (nm_r (nI_1 i) (ih (i + 1) (by omega) _ ?_))
      intro s hs
      by_cases y : s = i
      · subst y; rw [pk_us, pd_nb0]
      · rw [pk_un y]; exact hM s (by omega)
  exact ⟨17, key 16 0 rfl tM (fun s hs => absurd hs (Nat.not_lt_zero _))⟩
theorem xp_cm {post : Int32 → Prop} {x : Int32} (h1 : (∃ s, s < 16 ∧ ¬ tM s = 0 ∧ nI s &&& x = x) → post 1) (h0 : ¬ (∃ s, s < 16 ∧ ¬ tM s = 0 ∧ nI s &&& x = x) → post 0) : wpX_canMeet post (fw, fp, fl, fk, fc, fg, aV, aO, aP, aD, aN, aT, aR, aH, aW, aG, aL, aK, aU, aE, tA, tM, tB, tO, tS) x := by
  have key : ∀ g i, i + g = 16 → (∀ s, s < i → ¬ (¬ tM s = 0 ∧ nI s &&& x = x)) → wX_canMeet_2 post x fw fp fl fk fc fg aV aO aP aD aN aT aR aH aW aG aL aK aU aE tA tM tB tO tS (g + 1) (nI i) := by
    intro g
    induction g with
    | zero =>
      intro i hi hM
      have e : i = 16 := by omega
      subst e
      exact br_t (by decide) (h0 (fun ⟨s, hs, a⟩ => hM s hs a))
    | succ g ih =>
      intro i hi hM
      have hi6 : i < 16 := by omega
      refine br_f (nI_ge (b := 16) hi6 (by decide)) ⟨vp_in_nI hi6 (by omega), ?_⟩
      rw [nI_clamp (n := i) (by omega)]
      refine br_c (fun z => nm_r (nI_1 i) (ih (i + 1) (by omega) ?_)) (fun z => br_c (fun y => h1 ⟨i, hi6, z, y⟩) (fun y => nm_r (nI_1 i) (ih (i + 1) (by omega) ?_)))
      · intro s hs
        by_cases q : s = i
        · subst q; exact fun a => a.1 z
        · exact hM s (by omega)
      · intro s hs
        by_cases q : s = i
        · subst q; exact fun a => y a.2
        · exact hM s (by omega)
  exact ⟨17, key 16 0 rfl (fun s hs => absurd hs (Nat.not_lt_zero _))⟩
def pd_b (s : Nat) : Nat → Nat
  | 0 => 0
  | i + 1 => pd_b s i + s / 2 ^ i % 2
theorem xp_cb {post : Int32 → Prop} {s : Nat} (hs : s < 16) (h : post (nI (pd_b s 4))) : wpX_countBits post (nI s) := by
  have key : ∀ g i, i + g = 4 → wX_countBits_4 post (nI s) (g + 1) (nI (pd_b s i)) (nI i) := by
    intro g
    induction g with
    | zero =>
      intro i hi
      have e : i = 4 := by omega
      subst e
      exact br_t (by decide) h
    | succ g ih =>
      intro i hi
      have hd : s / 2 ^ i ≤ s := Nat.div_le_self _ _
      refine br_f (nI_ge (b := 4) (by omega) (by decide)) (nm_r (e' := nI (pd_b s (i + 1))) ?_ (nm_r (nI_1 i) (ih (i + 1) (by omega))))
      have e1 : nI (s / 2 ^ i) &&& 1 = nI (s / 2 ^ i % 2) := by
        show nI (s / 2 ^ i) &&& nI 1 = _
        rw [nx_and, Nat.and_one_is_mod]
      rw [pk_shrN (by omega) (nI i &&& 31) i (s_l i (by omega)), e1, nI_add]
      rfl
  exact ⟨5, key 4 0 rfl⟩
theorem pd_yb : ∀ s, s < 16 → ((((nI s &&& 1) + ((nI s >>> ((1 : Int32) &&& 31)) &&& 1)) + ((nI s >>> ((2 : Int32) &&& 31)) &&& 1)) + ((nI s >>> ((3 : Int32) &&& 31)) &&& 1)) = nI (pd_b s 4) := by decide +kernel
theorem yp_bi {post : Int32 → Prop} {s : Nat} (hs : s < 16) (h : post (nI (pd_b s 4))) : wpY_bits post (fw, fp, fl, fk, yN, fg, yO, aO, aP, aD, aN, aT, aR, aH, aW, aG, yA, yM, yC, aL, aK, aU, aE, yR) (nI s) := by
  unfold wpY_bits
  dsimp only
  rw [pd_yb s hs]
  exact h
theorem yp_cbm {post : Int32 → SY → Prop} {w : Nat} {x : Int32} (hw : fw = nI w) (hw4 : w ≤ 4) (hI : pd_I aD aT aW) (h4 : pd_4 aO) (hO : pd_Op aO yA yM)
    (h1 : pd_CM w aO aP aD aN aT aR aH aW aG x → ∀ c, post 1 (fw, fp, fl, fk, yN, fg, yO, aO, aP, aD, aN, aT, aR, aH, aW, aG, yA, yM, c, aL, aK, aU, aE, yR)) (h0 : ¬ pd_CM w aO aP aD aN aT aR aH aW aG x → ∀ c, post 0 (fw, fp, fl, fk, yN, fg, yO, aO, aP, aD, aN, aT, aR, aH, aW, aG, yA, yM, c, aL, aK, aU, aE, yR)) : wpY_canBeMet post (fw, fp, fl, fk, yN, fg, yO, aO, aP, aD, aN, aT, aR, aH, aW, aG, yA, yM, yC, aL, aK, aU, aE, yR) x := by
  have hT := pd_T3125 h4
  have key : ∀ g i, i + g = pd_T aO → (∀ k, k < i → ¬ (pd_S aP aD aN aT aR (pd_ci aO k) ∧ ∀ l, l < w → bt x l = true → pd_w aH aW aG (pd_ci aO k) l = true)) → ∀ c, wY_canBeMet_2 post x (g + 1) (nI i) fw fp fl fk yN fg yO aO aP aD aN aT aR aH aW aG yA yM c aL aK aU aE yR := by
    intro g
    induction g with
    | zero =>
      intro i hi hN c
      have e : i = pd_T aO := by omega
      subst e
      rw [wY_canBeMet_2]
      exact yp_cs hO (br_t (nI_le (by omega) (by omega)) (h0 (fun ⟨k, hk, a⟩ => hN k hk a) c))
    | succ g ih =>
      intro i hi hN c
      rw [wY_canBeMet_2]
      refine yp_cs hO (br_f (nI_ge (show i < pd_T aO by omega) (by omega)) (yp_take (by omega) h4 hO (fun c ht => ?_)))
      have si := pd_Si (aP := aP) (aN := aN) (aR := aR) hI (pd_tr9 ht) ht
      have wi : ∀ l, l < w → pd_w aH aW aG c l = pd_w aH aW aG (pd_ci aO i) l := fun l hl => pd_wc (hI.2.2 l (by omega)) ht
      refine yp_snd hI (pd_tr9 ht) (fun s => br_f (by decide) (yp_meets hw hw4 hI (fun m => br_f (by decide) (h1 ⟨i, by omega, si.mp s, fun l hl hb => (wi l hl) ▸ m l hl hb⟩ c)) (fun m => br_t rfl (nm_r (nI_1 i) (ih (i + 1) (by omega) ?_ c))))) (fun s => br_t rfl (nm_r (nI_1 i) (ih (i + 1) (by omega) ?_ c)))
      · intro k hk
        by_cases q : k = i
        · subst q; exact fun a => m (fun l hl hb => (wi l hl).symm ▸ a.2 l hl hb)
        · exact hN k (by omega)
      · intro k hk
        by_cases q : k = i
        · subst q; exact fun a => s (si.mpr a.1)
        · exact hN k (by omega)
  exact ⟨_, key (pd_T aO) 0 (by omega) (fun k hk => absurd hk (Nat.not_lt_zero _)) yC⟩
