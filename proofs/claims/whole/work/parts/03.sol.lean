/-! what a choice must keep, and X's and Y's walks through it -/
section
def pd_I (aD aT aW : Nat → Int32) : Prop := (∀ c, c < 50 → ∃ d, d ≤ 3 ∧ aD c = nI d) ∧ (∀ s, s < 150 → ∃ o, o < 5 ∧ aT s = nI o) ∧ (∀ i, i < 4 → ∃ o, o < 5 ∧ aW i = nI o)
def pd_9 (c : Nat → Int32) : Prop := ∀ p, p < 5 → ∃ x, x ≤ 9 ∧ c p = nI x
def pd_D (aD aN aT aR c : Nat → Int32) (e : Nat) : Prop := ∀ i, i < (aD e).toNatClampNeg → pd_r (c (aT (3 * e + i)).toNatClampNeg) (aR (3 * e + i)) = aN (3 * e + i)
def pd_t (aP c : Nat → Int32) : Nat → Int32
  | 0 => 0
  | p + 1 => if c p = 0 then pd_t aP c p else pd_t aP c p ||| aP (10 * p + (c p).toNatClampNeg)
def pd_S (aP aD aN aT aR c : Nat → Int32) : Prop := ∀ p, p < 5 → ¬ c p = 0 → (pd_t aP c p &&& aP (10 * p + (c p).toNatClampNeg)) = 0 ∧ pd_D aD aN aT aR c (10 * p + (c p).toNatClampNeg)
def pd_w (aH aW aG c : Nat → Int32) (i : Nat) : Bool := decide (pd_r (c (aW i).toNatClampNeg) (aG i) = aH i)
def pd_m (f : Nat → Bool) : Nat → Nat
  | 0 => 0
  | i + 1 => if f i then pd_m f i + 2 ^ i else pd_m f i
def pd_Q (w : Nat) (aP aD aN aT aR aH aW aG c : Nat → Int32) : Prop := (∀ i, i < w → pd_w aH aW aG c i = true) ∧ pd_S aP aD aN aT aR c
theorem pd_mlt (f : Nat → Bool) : ∀ i, pd_m f i < 2 ^ i := by
  intro i
  induction i with
  | zero => exact Nat.one_pos
  | succ i ih =>
    rw [pd_m, Nat.pow_succ]
    split <;> omega
theorem pd_or2 {m i : Nat} (h : m < 2 ^ i) : m ||| 2 ^ i = m + 2 ^ i := by
  have e := Nat.two_pow_add_eq_or_of_lt h 1
  rw [Nat.mul_one] at e
  rw [Nat.or_comm, ← e, Nat.add_comm]
theorem pd_mtb (f : Nat → Bool) : ∀ w i, i < w → (pd_m f w).testBit i = f i := by
  intro w
  induction w with
  | zero => intro i h; omega
  | succ w ih =>
    intro i hi
    have hm := pd_mlt f w
    by_cases z : i = w
    · subst z
      rw [pd_m]
      cases y : f i
      · exact Nat.testBit_lt_two_pow hm
      · rw [if_pos rfl, ← pd_or2 hm, Nat.testBit_or, Nat.testBit_lt_two_pow hm, Nat.testBit_two_pow_self]
        rfl
    · rw [pd_m]
      split
      · rw [← pd_or2 hm, Nat.testBit_or, ih i (by omega), Nat.testBit_two_pow_of_ne (by omega), Bool.or_false]
      · exact ih i (by omega)
theorem pd_mall (f : Nat → Bool) : ∀ w, pd_m f w = 2 ^ w - 1 ↔ ∀ i, i < w → f i = true := by
  intro w
  induction w with
  | zero => exact ⟨fun _ i h => absurd h (Nat.not_lt_zero _), fun _ => rfl⟩
  | succ w ih =>
    have hm := pd_mlt f w
    have hp : 0 < 2 ^ w := Nat.two_pow_pos w
    rw [pd_m, Nat.pow_succ]
    constructor
    · intro h
      cases y : f w
      · rw [y] at h
        rw [if_neg (by decide)] at h
        omega
      · rw [y, if_pos rfl] at h
        have := ih.mp (by omega)
        intro i hi
        by_cases z : i = w
        · rw [z]; exact y
        · exact this i (by omega)
    · intro h
      rw [if_pos (h w (by omega)), ih.mpr (fun i hi => h i (by omega))]
      omega
theorem pd_Dc {aD aN aT aR c c' : Nat → Int32} {e d : Nat} (he : e < 50) (hD : aD e = nI d) (hd : d ≤ 3) (hT : ∀ s, s < 150 → ∃ o, o < 5 ∧ aT s = nI o) (hc : ∀ p, p < 5 → c p = c' p) (h : pd_D aD aN aT aR c e) : pd_D aD aN aT aR c' e := by
  intro i hi
  have h2 := h i hi
  rw [hD, nI_clamp (by omega)] at hi
  obtain ⟨o, ho, eo⟩ := hT (3 * e + i) (by omega)
  rw [eo, nI_clamp (by omega)] at h2 ⊢
  rw [← hc o ho]
  exact h2
theorem pd_tc {aP c c' : Nat → Int32} (hc : ∀ p, p < 5 → c p = c' p) : ∀ p, p ≤ 5 → pd_t aP c p = pd_t aP c' p := by
  intro p
  induction p with
  | zero => intro _; rfl
  | succ p ih =>
    intro hp
    rw [pd_t, pd_t, ih (by omega), hc p (by omega)]
theorem pd_cell {c : Nat → Int32} (h9 : pd_9 c) {p : Nat} (hp : p < 5) : 10 * p + (c p).toNatClampNeg < 50 := by
  obtain ⟨x, hx, e⟩ := h9 p hp
  rw [e, nI_clamp (by omega)]
  omega
theorem pd_Sc {aP aD aN aT aR aW c c' : Nat → Int32} (hI : pd_I aD aT aW) (h9 : pd_9 c) (hc : ∀ p, p < 5 → c p = c' p) (h : pd_S aP aD aN aT aR c) : pd_S aP aD aN aT aR c' := by
  intro p hp hz
  have e := hc p hp
  have hl := pd_cell h9 hp
  obtain ⟨a, b⟩ := h p hp (by rw [e]; exact hz)
  obtain ⟨d, hd, hD⟩ := hI.1 _ hl
  have b' := pd_Dc hl hD hd hI.2.1 hc b
  rw [e] at a b'
  rw [pd_tc hc p (by omega)] at a
  exact ⟨a, b'⟩
theorem pd_wc {aH aW aG c c' : Nat → Int32} {i : Nat} (hW : ∃ o, o < 5 ∧ aW i = nI o) (hc : ∀ p, p < 5 → c p = c' p) : pd_w aH aW aG c i = pd_w aH aW aG c' i := by
  obtain ⟨o, ho, eo⟩ := hW
  unfold pd_w
  rw [eo, nI_clamp (by omega), hc o ho]
theorem pd_Qc {w : Nat} {aP aD aN aT aR aH aW aG c c' : Nat → Int32} (hw : w ≤ 4) (hI : pd_I aD aT aW) (h9 : pd_9 c) (hc : ∀ p, p < 5 → c p = c' p) (h : pd_Q w aP aD aN aT aR aH aW aG c) : pd_Q w aP aD aN aT aR aH aW aG c' :=
  ⟨fun i hi => (pd_wc (hI.2.2 i (by omega)) hc) ▸ h.1 i hi, pd_Sc hI h9 hc h.2⟩
theorem pd_9c {c c' : Nat → Int32} (h9 : pd_9 c) (hc : ∀ p, p < 5 → c p = c' p) : pd_9 c' := fun p hp => (hc p hp) ▸ h9 p hp
theorem pd_Qi {w : Nat} {aP aD aN aT aR aH aW aG c c' : Nat → Int32} (hw : w ≤ 4) (hI : pd_I aD aT aW) (h9 : pd_9 c) (hc : ∀ p, p < 5 → c p = c' p) : pd_Q w aP aD aN aT aR aH aW aG c ↔ pd_Q w aP aD aN aT aR aH aW aG c' :=
  ⟨pd_Qc hw hI h9 hc, pd_Qc hw hI (pd_9c h9 hc) (fun p hp => (hc p hp).symm)⟩
theorem pd_Si {aP aD aN aT aR aW c c' : Nat → Int32} (hI : pd_I aD aT aW) (h9 : pd_9 c) (hc : ∀ p, p < 5 → c p = c' p) : pd_S aP aD aN aT aR c ↔ pd_S aP aD aN aT aR c' :=
  ⟨pd_Sc hI h9 hc, pd_Sc hI (pd_9c h9 hc) (fun p hp => (hc p hp).symm)⟩
theorem pd_mc {f f' : Nat → Bool} : ∀ w, (∀ i, i < w → f i = f' i) → pd_m f w = pd_m f' w := by
  intro w
  induction w with
  | zero => intro _; rfl
  | succ w ih =>
    intro h
    rw [pd_m, pd_m, ih (fun i hi => h i (by omega)), h w (by omega)]
end
section
variable {fw fp fl fk fc fg yN yO : Int32} {aV aO aP aD aN aT aR aH aW aG aL aK aU aE tA tM tB tO tS yA yM yC yR : Nat → Int32}
theorem xp_in {post : Int32 → Prop} {v r : Int32} (h : post (pd_r v r)) : wpX_isInRange post v r := by
  refine ⟨by decide, br_c (fun c => ?_) (fun c => ⟨by decide, br_c (fun d => ?_) (fun d => ?_)⟩)⟩
  · rwa [pd_r, if_pos c] at h
  · rwa [pd_r, if_neg c, if_pos d] at h
  · rwa [pd_r, if_neg c, if_neg d] at h
theorem yp_in {post : Int32 → Prop} {v r : Int32} (h : post (pd_r v r)) : wpY_within post (fw, fp, fl, fk, yN, fg, yO, aO, aP, aD, aN, aT, aR, aH, aW, aG, yA, yM, yC, aL, aK, aU, aE, yR) v r := by
  refine ⟨by decide, br_c (fun c => ?_) (fun c => ⟨by decide, br_c (fun d => ?_) (fun d => ?_)⟩)⟩
  · rwa [pd_r, if_pos c] at h
  · rwa [pd_r, if_neg c, if_pos d] at h
  · rwa [pd_r, if_neg c, if_neg d] at h
theorem xp_dh_trial {post : Int32 → Prop} {e d : Nat} (he : e < 50) (hD : aD e = nI d) (hd : d ≤ 3) (hT : ∀ s, s < 150 → ∃ o, o < 5 ∧ aT s = nI o) (h1 : pd_D aD aN aT aR tA e → post 1) (h0 : ¬ pd_D aD aN aT aR tA e → post 0) : wpX_demandsHold__trial post (fw, fp, fl, fk, fc, fg, aV, aO, aP, aD, aN, aT, aR, aH, aW, aG, aL, aK, aU, aE, tA, tM, tB, tO, tS) (nI e) := by
  have key : ∀ g i, i + g = d → (∀ j, j < i → pd_r (tA (aT (3 * e + j)).toNatClampNeg) (aR (3 * e + j)) = aN (3 * e + j)) → wX_demandsHold__trial_2 post (nI e) fw fp fl fk fc fg aV aO aP aD aN aT aR aH aW aG aL aK aU aE tA tM tB tO tS (g + 1) (nI i) := by
    intro g
    induction g with
    | zero =>
      intro i hi hj
      refine ⟨vp_in_nI he (by omega), ?_⟩
      rw [nI_clamp (by omega), hD]
      refine br_t (nI_le (by omega) (by omega)) (h1 ?_)
      intro j hj'
      rw [hD, nI_clamp (by omega)] at hj'
      exact hj j (by omega)
    | succ g ih =>
      intro i hi hj
      have hk : 3 * e + i < 150 := by omega
      obtain ⟨o, ho, eo⟩ := hT (3 * e + i) hk
      refine ⟨vp_in_nI he (by omega), ?_⟩
      rw [nI_clamp (by omega), hD]
      refine br_f (nI_ge (by omega) (by omega)) (nm_r (e' := nI (3 * e + i)) (by rw [← nI_add, ← pk_mul]; rfl) ?_)
      rw [nI_clamp (n := 3 * e + i) (by omega)]
      refine ⟨vp_in_nI hk (by omega), by rw [eo]; exact vp_in_nI ho (by omega), vp_in_nI hk (by omega), xp_in ?_⟩
      refine ⟨vp_in_nI hk (by omega), br_c (fun c => nm_r (nI_1 i) (ih (i + 1) (by omega) ?_)) (fun c => h0 ?_)⟩
      · intro j hj'
        by_cases z : j = i
        · subst z; exact c
        · exact hj j (by omega)
      · intro hq
        exact c (hq i (by rw [hD, nI_clamp (by omega)]; omega))
  exact ⟨d + 1, key d 0 (by omega) (fun j hj => absurd hj (Nat.not_lt_zero _))⟩
theorem xp_snd_trial {post : Int32 → Prop} (hI : pd_I aD aT aW) (h9 : pd_9 tA) (h1 : pd_S aP aD aN aT aR tA → post 1) (h0 : ¬ pd_S aP aD aN aT aR tA → post 0) : wpX_isSound__trial post (fw, fp, fl, fk, fc, fg, aV, aO, aP, aD, aN, aT, aR, aH, aW, aG, aL, aK, aU, aE, tA, tM, tB, tO, tS) := by
  have key : ∀ g i, i + g = 5 → (∀ p, p < i → ¬ tA p = 0 → (pd_t aP tA p &&& aP (10 * p + (tA p).toNatClampNeg)) = 0 ∧ pd_D aD aN aT aR tA (10 * p + (tA p).toNatClampNeg)) → wX_isSound__trial_4 post fw fp fl fk fc fg aV aO aP aD aN aT aR aH aW aG aL aK aU aE tA tM tB tO tS (g + 1) (pd_t aP tA i) (nI i) := by
    intro g
    induction g with
    | zero =>
      intro i hi hj
      refine br_t (nI_le (a := 5) (by omega) (by omega)) (h1 ?_)
      intro p hp
      exact hj p (by omega)
    | succ g ih =>
      intro i hi hj
      have hi5 : i < 5 := by omega
      obtain ⟨x, hx, ex⟩ := h9 i hi5
      have hl : 10 * i + x < 50 := by omega
      obtain ⟨d, hd, hD⟩ := hI.1 _ hl
      have et : (tA i).toNatClampNeg = x := by rw [ex, nI_clamp (by omega)]
      refine br_f (lt5' i hi5) ⟨vp_in_nI hi5 (by omega), ?_⟩
      rw [nI_clamp (n := i) (by omega)]
      refine br_c (fun z => nm_r (nI_1 i) ?_) (fun z => ⟨vp_in_nI hi5 (by omega), nm_r (e' := nI (10 * i + x)) (by rw [ex, ← nI_add, ← pk_mul]; rfl) ⟨vp_in_nI hl (by omega), ?_⟩⟩)
      · have i2 := ih (i + 1) (by omega) (fun p hp hz => by
          by_cases q : p = i
          · subst q; exact absurd z hz
          · exact hj p (by omega) hz)
        rw [pd_t, if_pos z] at i2
        exact i2
      · rw [nI_clamp (n := 10 * i + x) (by omega)]
        refine br_c (fun a => ?_) (fun a => h0 ?_)
        · refine xp_dh_trial hl hD hd hI.2.1 (fun hq => ?_) (fun hq => ?_)
          · refine br_f (by decide) ⟨vp_in_nI hl (by omega), nm_e (nm_r (nI_1 i) ?_)⟩
            have i2 := ih (i + 1) (by omega) (fun p hp hz => by
              by_cases q : p = i
              · subst q; rw [et]; exact ⟨a, hq⟩
              · exact hj p (by omega) hz)
            rw [pd_t, if_neg z, et] at i2
            exact i2
          · refine br_t rfl (h0 ?_)
            intro hs
            have := (hs i hi5 z).2
            rw [et] at this
            exact hq this
        · intro hs
          have := (hs i hi5 z).1
          rw [et] at this
          exact a this
  exact ⟨6, key 5 0 rfl (fun p hp => absurd hp (Nat.not_lt_zero _))⟩
theorem xp_mw_trial {post : Int32 → Prop} {w : Nat} (hw : fw = nI w) (hw4 : w ≤ 4) (hI : pd_I aD aT aW) (h : post (nI (pd_m (pd_w aH aW aG tA) w))) : wpX_metWishes__trial post (fw, fp, fl, fk, fc, fg, aV, aO, aP, aD, aN, aT, aR, aH, aW, aG, aL, aK, aU, aE, tA, tM, tB, tO, tS) := by
  have key : ∀ g i, i + g = w → wX_metWishes__trial_4 post fw fp fl fk fc fg aV aO aP aD aN aT aR aH aW aG aL aK aU aE tA tM tB tO tS (g + 1) (nI (pd_m (pd_w aH aW aG tA) i)) (nI i) := by
    intro g
    induction g with
    | zero =>
      intro i hi
      have e : i = w := by omega
      subst e
      rw [hw]
      exact br_t (nI_le (Nat.le_refl _) (by omega)) h
    | succ g ih =>
      intro i hi
      have hi4 : i < 4 := by omega
      obtain ⟨o, ho, eo⟩ := hI.2.2 i hi4
      refine br_f (by rw [hw]; exact nI_ge (by omega) (by omega)) ⟨vp_in_nI hi4 (by omega), ?_⟩
      rw [nI_clamp (n := i) (by omega)]
      refine ⟨by rw [eo]; exact vp_in_nI ho (by omega), vp_in_nI hi4 (by omega), xp_in ⟨vp_in_nI hi4 (by omega), ?_⟩⟩
      have i2 := ih (i + 1) (by omega)
      rw [pd_m] at i2
      refine br_c (fun c => ?_) (fun c => ?_)
      · rw [if_pos (show pd_w aH aW aG tA i = true from decide_eq_true c)] at i2
        refine nm_r ?_ (nm_r (nI_1 i) i2)
        rw [pd_shl1 (by omega), pd_or, pd_or2 (pd_mlt _ _)]
      · rw [if_neg (show ¬ pd_w aH aW aG tA i = true from fun q => c (of_decide_eq_true q))] at i2
        exact nm_r (nI_1 i) i2
  exact ⟨w + 1, key w 0 (by omega)⟩
theorem xp_sol_trial {post : Int32 → Prop} {w : Nat} (hw : fw = nI w) (hw4 : w ≤ 4) (hI : pd_I aD aT aW) (h9 : pd_9 tA) (h1 : pd_Q w aP aD aN aT aR aH aW aG tA → post 1) (h0 : ¬ pd_Q w aP aD aN aT aR aH aW aG tA → post 0) : wpX_isSolution__trial post (fw, fp, fl, fk, fc, fg, aV, aO, aP, aD, aN, aT, aR, aH, aW, aG, aL, aK, aU, aE, tA, tM, tB, tO, tS) := by
  have hm := pd_mlt (pd_w aH aW aG tA) w
  have h16 : 2 ^ w ≤ 2 ^ 4 := Nat.pow_le_pow_right (by decide) hw4
  have hp : 0 < 2 ^ w := Nat.two_pow_pos w
  have e : ((1 : Int32) <<< (fw &&& 31)) - 1 = nI (2 ^ w - 1) := by
    rw [hw, pd_shl1 (by omega)]
    exact pk_sub (b := 1) hp
  refine xp_mw_trial (post := fun r_1 => (((r_1 = (((1 : Int32) <<< (fw &&& 31)) - 1) → (wpX_isSound__trial (fun r_28 => (((r_28 = 0 → (post 0)) ∧ (¬ r_28 = 0 → (post 1))))) (fw, fp, fl, fk, fc, fg, aV, aO, aP, aD, aN, aT, aR, aH, aW, aG, aL, aK, aU, aE, tA, tM, tB, tO, tS))) ∧ (¬ r_1 = (((1 : Int32) <<< (fw &&& 31)) - 1) → (post 0))))) hw hw4 hI ?_
  rw [e]
  refine br_c (fun c => ?_) (fun c => h0 ?_)
  · rw [nI_eq (by omega) (by omega), pd_mall] at c
    exact xp_snd_trial hI h9 (fun s => br_f (by decide) (h1 ⟨c, s⟩)) (fun s => br_t rfl (h0 (fun q => s q.2)))
  · intro q
    rw [nI_eq (by omega) (by omega), pd_mall] at c
    exact c q.1
theorem xp_dh_lockedIn {post : Int32 → Prop} {e d : Nat} (he : e < 50) (hD : aD e = nI d) (hd : d ≤ 3) (hT : ∀ s, s < 150 → ∃ o, o < 5 ∧ aT s = nI o) (h1 : pd_D aD aN aT aR aK e → post 1) (h0 : ¬ pd_D aD aN aT aR aK e → post 0) : wpX_demandsHold__lockedIn post (fw, fp, fl, fk, fc, fg, aV, aO, aP, aD, aN, aT, aR, aH, aW, aG, aL, aK, aU, aE, tA, tM, tB, tO, tS) (nI e) := by
  have key : ∀ g i, i + g = d → (∀ j, j < i → pd_r (aK (aT (3 * e + j)).toNatClampNeg) (aR (3 * e + j)) = aN (3 * e + j)) → wX_demandsHold__lockedIn_2 post (nI e) fw fp fl fk fc fg aV aO aP aD aN aT aR aH aW aG aL aK aU aE tA tM tB tO tS (g + 1) (nI i) := by
    intro g
    induction g with
    | zero =>
      intro i hi hj
      refine ⟨vp_in_nI he (by omega), ?_⟩
      rw [nI_clamp (by omega), hD]
      refine br_t (nI_le (by omega) (by omega)) (h1 ?_)
      intro j hj'
      rw [hD, nI_clamp (by omega)] at hj'
      exact hj j (by omega)
    | succ g ih =>
      intro i hi hj
      have hk : 3 * e + i < 150 := by omega
      obtain ⟨o, ho, eo⟩ := hT (3 * e + i) hk
      refine ⟨vp_in_nI he (by omega), ?_⟩
      rw [nI_clamp (by omega), hD]
      refine br_f (nI_ge (by omega) (by omega)) (nm_r (e' := nI (3 * e + i)) (by rw [← nI_add, ← pk_mul]; rfl) ?_)
      rw [nI_clamp (n := 3 * e + i) (by omega)]
      refine ⟨vp_in_nI hk (by omega), by rw [eo]; exact vp_in_nI ho (by omega), vp_in_nI hk (by omega), xp_in ?_⟩
      refine ⟨vp_in_nI hk (by omega), br_c (fun c => nm_r (nI_1 i) (ih (i + 1) (by omega) ?_)) (fun c => h0 ?_)⟩
      · intro j hj'
        by_cases z : j = i
        · subst z; exact c
        · exact hj j (by omega)
      · intro hq
        exact c (hq i (by rw [hD, nI_clamp (by omega)]; omega))
  exact ⟨d + 1, key d 0 (by omega) (fun j hj => absurd hj (Nat.not_lt_zero _))⟩
theorem xp_snd_lockedIn {post : Int32 → Prop} (hI : pd_I aD aT aW) (h9 : pd_9 aK) (h1 : pd_S aP aD aN aT aR aK → post 1) (h0 : ¬ pd_S aP aD aN aT aR aK → post 0) : wpX_isSound__lockedIn post (fw, fp, fl, fk, fc, fg, aV, aO, aP, aD, aN, aT, aR, aH, aW, aG, aL, aK, aU, aE, tA, tM, tB, tO, tS) := by
  have key : ∀ g i, i + g = 5 → (∀ p, p < i → ¬ aK p = 0 → (pd_t aP aK p &&& aP (10 * p + (aK p).toNatClampNeg)) = 0 ∧ pd_D aD aN aT aR aK (10 * p + (aK p).toNatClampNeg)) → wX_isSound__lockedIn_4 post fw fp fl fk fc fg aV aO aP aD aN aT aR aH aW aG aL aK aU aE tA tM tB tO tS (g + 1) (pd_t aP aK i) (nI i) := by
    intro g
    induction g with
    | zero =>
      intro i hi hj
      refine br_t (nI_le (a := 5) (by omega) (by omega)) (h1 ?_)
      intro p hp
      exact hj p (by omega)
    | succ g ih =>
      intro i hi hj
      have hi5 : i < 5 := by omega
      obtain ⟨x, hx, ex⟩ := h9 i hi5
      have hl : 10 * i + x < 50 := by omega
      obtain ⟨d, hd, hD⟩ := hI.1 _ hl
      have et : (aK i).toNatClampNeg = x := by rw [ex, nI_clamp (by omega)]
      refine br_f (lt5' i hi5) ⟨vp_in_nI hi5 (by omega), ?_⟩
      rw [nI_clamp (n := i) (by omega)]
      refine br_c (fun z => nm_r (nI_1 i) ?_) (fun z => ⟨vp_in_nI hi5 (by omega), nm_r (e' := nI (10 * i + x)) (by rw [ex, ← nI_add, ← pk_mul]; rfl) ⟨vp_in_nI hl (by omega), ?_⟩⟩)
      · have i2 := ih (i + 1) (by omega) (fun p hp hz => by
          by_cases q : p = i
          · subst q; exact absurd z hz
          · exact hj p (by omega) hz)
        rw [pd_t, if_pos z] at i2
        exact i2
      · rw [nI_clamp (n := 10 * i + x) (by omega)]
        refine br_c (fun a => ?_) (fun a => h0 ?_)
        · refine xp_dh_lockedIn hl hD hd hI.2.1 (fun hq => ?_) (fun hq => ?_)
          · refine br_f (by decide) ⟨vp_in_nI hl (by omega), nm_e (nm_r (nI_1 i) ?_)⟩
            have i2 := ih (i + 1) (by omega) (fun p hp hz => by
              by_cases q : p = i
              · subst q; rw [et]; exact ⟨a, hq⟩
              · exact hj p (by omega) hz)
            rw [pd_t, if_neg z, et] at i2
            exact i2
          · refine br_t rfl (h0 ?_)
            intro hs
            have := (hs i hi5 z).2
            rw [et] at this
            exact hq this
        · intro hs
          have := (hs i hi5 z).1
          rw [et] at this
          exact a this
  exact ⟨6, key 5 0 rfl (fun p hp => absurd hp (Nat.not_lt_zero _))⟩
theorem xp_mw_lockedIn {post : Int32 → Prop} {w : Nat} (hw : fw = nI w) (hw4 : w ≤ 4) (hI : pd_I aD aT aW) (h : post (nI (pd_m (pd_w aH aW aG aK) w))) : wpX_metWishes__lockedIn post (fw, fp, fl, fk, fc, fg, aV, aO, aP, aD, aN, aT, aR, aH, aW, aG, aL, aK, aU, aE, tA, tM, tB, tO, tS) := by
  have key : ∀ g i, i + g = w → wX_metWishes__lockedIn_4 post fw fp fl fk fc fg aV aO aP aD aN aT aR aH aW aG aL aK aU aE tA tM tB tO tS (g + 1) (nI (pd_m (pd_w aH aW aG aK) i)) (nI i) := by
    intro g
    induction g with
    | zero =>
      intro i hi
      have e : i = w := by omega
      subst e
      rw [hw]
      exact br_t (nI_le (Nat.le_refl _) (by omega)) h
    | succ g ih =>
      intro i hi
      have hi4 : i < 4 := by omega
      obtain ⟨o, ho, eo⟩ := hI.2.2 i hi4
      refine br_f (by rw [hw]; exact nI_ge (by omega) (by omega)) ⟨vp_in_nI hi4 (by omega), ?_⟩
      rw [nI_clamp (n := i) (by omega)]
      refine ⟨by rw [eo]; exact vp_in_nI ho (by omega), vp_in_nI hi4 (by omega), xp_in ⟨vp_in_nI hi4 (by omega), ?_⟩⟩
      have i2 := ih (i + 1) (by omega)
      rw [pd_m] at i2
      refine br_c (fun c => ?_) (fun c => ?_)
      · rw [if_pos (show pd_w aH aW aG aK i = true from decide_eq_true c)] at i2
        refine nm_r ?_ (nm_r (nI_1 i) i2)
        rw [pd_shl1 (by omega), pd_or, pd_or2 (pd_mlt _ _)]
      · rw [if_neg (show ¬ pd_w aH aW aG aK i = true from fun q => c (of_decide_eq_true q))] at i2
        exact nm_r (nI_1 i) i2
  exact ⟨w + 1, key w 0 (by omega)⟩
theorem xp_sol_lockedIn {post : Int32 → Prop} {w : Nat} (hw : fw = nI w) (hw4 : w ≤ 4) (hI : pd_I aD aT aW) (h9 : pd_9 aK) (h1 : pd_Q w aP aD aN aT aR aH aW aG aK → post 1) (h0 : ¬ pd_Q w aP aD aN aT aR aH aW aG aK → post 0) : wpX_isSolution__lockedIn post (fw, fp, fl, fk, fc, fg, aV, aO, aP, aD, aN, aT, aR, aH, aW, aG, aL, aK, aU, aE, tA, tM, tB, tO, tS) := by
  have hm := pd_mlt (pd_w aH aW aG aK) w
  have h16 : 2 ^ w ≤ 2 ^ 4 := Nat.pow_le_pow_right (by decide) hw4
  have hp : 0 < 2 ^ w := Nat.two_pow_pos w
  have e : ((1 : Int32) <<< (fw &&& 31)) - 1 = nI (2 ^ w - 1) := by
    rw [hw, pd_shl1 (by omega)]
    exact pk_sub (b := 1) hp
  refine xp_mw_lockedIn (post := fun r_1 => (((r_1 = (((1 : Int32) <<< (fw &&& 31)) - 1) → (wpX_isSound__lockedIn (fun r_28 => (((r_28 = 0 → (post 0)) ∧ (¬ r_28 = 0 → (post 1))))) (fw, fp, fl, fk, fc, fg, aV, aO, aP, aD, aN, aT, aR, aH, aW, aG, aL, aK, aU, aE, tA, tM, tB, tO, tS))) ∧ (¬ r_1 = (((1 : Int32) <<< (fw &&& 31)) - 1) → (post 0))))) hw hw4 hI ?_
  rw [e]
  refine br_c (fun c => ?_) (fun c => h0 ?_)
  · rw [nI_eq (by omega) (by omega), pd_mall] at c
    exact xp_snd_lockedIn hI h9 (fun s => br_f (by decide) (h1 ⟨c, s⟩)) (fun s => br_t rfl (h0 (fun q => s q.2)))
  · intro q
    rw [nI_eq (by omega) (by omega), pd_mall] at c
    exact c q.1
end
