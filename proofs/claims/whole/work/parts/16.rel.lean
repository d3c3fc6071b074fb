/-! the relation; arguments; counting the versions of a package -/
section
def pd_J (k : Nat) (fw fk fc fg yN : Int32) (aV aO aD aT aW aL aK aU aE : Nat → Int32) : Prop := ∃ w kn c g : Nat, fw = nI w ∧ w ≤ 4 ∧ fk = nI kn ∧ fc = nI c ∧ fg = nI g ∧ g ≤ k ∧ yN = aU c ∧ pd_GI kn c g aU aE ∧ pd_I aD aT aW ∧ pd_I2 aD aT ∧ pd_4 aO ∧ pd_V aV aO ∧ pd_9 aL ∧ pd_9 aK
/-- what both keep alike is one function; versionCount counts offered; the current slot holds the current number -/
def i_Rel (k : Nat) (u : SX) (v : SY) : Prop := ∃ (fw fp fl fk fc fg yN yO : Int32) (aV aO aP aD aN aT aR aH aW aG aL aK aU aE tA tM tB tO tS yA yM yC yR : Nat → Int32), u = (fw, fp, fl, fk, fc, fg, aV, aO, aP, aD, aN, aT, aR, aH, aW, aG, aL, aK, aU, aE, tA, tM, tB, tO, tS) ∧ v = (fw, fp, fl, fk, yN, fg, yO, aO, aP, aD, aN, aT, aR, aH, aW, aG, yA, yM, yC, aL, aK, aU, aE, yR) ∧ pd_J k fw fk fc fg yN aV aO aD aT aW aL aK aU aE
theorem i_up {k : Nat} {u : SX} {v : SY} (h : i_Rel k u v) : i_Rel (k + 5) u v := by
  obtain ⟨fw, fp, fl, fk, fc, fg, yN, yO, aV, aO, aP, aD, aN, aT, aR, aH, aW, aG, aL, aK, aU, aE, tA, tM, tB, tO, tS, yA, yM, yC, yR, rfl, rfl, ⟨w, kn, c, g, ew, hw, ek, ec, eg, hgk, en, hG, hI, hI2, h4, hV, h9, hK⟩⟩ := h
  exact ⟨_, _, _, _, _, _, _, _, _, _, _, _, _, _, _, _, _, _, _, _, _, _, _, _, _, _, _, _, _, _, _, rfl, rfl, ⟨w, kn, c, g, ew, hw, ek, ec, eg, by omega, en, hG, hI, hI2, h4, hV, h9, hK⟩⟩
theorem i_vc0 : wpX_init (fun u => wpY_init (fun v => i_Rel 0 u v)) := by
  refine ⟨_, _, _, _, _, _, _, _, _, _, _, _, _, _, _, _, _, _, _, _, _, _, _, _, _, _, _, _, _, _, _, rfl, rfl, ⟨0, 1, 0, 0, rfl, by omega, rfl, rfl, rfl, by omega, rfl, ⟨by omega, by omega, by omega, ⟨fun _ => 0, fun _ _ => ⟨rfl, Nat.le_refl _⟩, fun i j h1 h2 => by omega⟩, fun _ _ => ⟨0, by omega, rfl⟩⟩, ⟨fun _ _ => ⟨0, by omega, rfl⟩, fun _ _ => ⟨0, by omega, rfl⟩, fun _ _ => ⟨0, by omega, rfl⟩⟩, ?_, ?_, ?_, fun _ _ => ⟨0, by omega, rfl⟩, fun _ _ => ⟨0, by omega, rfl⟩⟩⟩
  · intro c hc i hi
    exact absurd hi (Nat.not_lt_zero _)
  · intro p hp
    exact Nat.zero_le _
  · intro p hp
    rfl
end
section
variable {fw fp fl fk fc fg yN yO : Int32} {aV aO aP aD aN aT aR aH aW aG aL aK aU aE tA tM tB tO tS yA yM yC yR : Nat → Int32}
theorem pd_mk {k w kn c g : Nat} (ew : fw = nI w) (hw : w ≤ 4) (ek : fk = nI kn) (ec : fc = nI c) (eg : fg = nI g) (hgk : g ≤ k) (en : yN = aU c) (hG : pd_GI kn c g aU aE) (hI : pd_I aD aT aW) (hI2 : pd_I2 aD aT) (h4 : pd_4 aO) (hV : pd_V aV aO) (h9 : pd_9 aL) (hK : pd_9 aK) : i_Rel k (fw, fp, fl, fk, fc, fg, aV, aO, aP, aD, aN, aT, aR, aH, aW, aG, aL, aK, aU, aE, tA, tM, tB, tO, tS) (fw, fp, fl, fk, yN, fg, yO, aO, aP, aD, aN, aT, aR, aH, aW, aG, yA, yM, yC, aL, aK, aU, aE, yR) :=
  ⟨_, _, _, _, _, _, _, _, _, _, _, _, _, _, _, _, _, _, _, _, _, _, _, _, _, _, _, _, _, _, _, rfl, rfl, ⟨w, kn, c, g, ew, hw, ek, ec, eg, hgk, en, hG, hI, hI2, h4, hV, h9, hK⟩⟩
theorem xp_pk1 {post : Int32 → Prop} {p : Nat} (hp : p < 5) (h : post 1) : wpX_isPack post (nI p) :=
  br_f (nI_pos (by omega)) (br_f (lt5' p hp) h)
theorem yp_pk1 {post : Int32 → Prop} {p : Nat} (hp : p < 5) (h : post 1) : wpY_goodPack post (fw, fp, fl, fk, yN, fg, yO, aO, aP, aD, aN, aT, aR, aH, aW, aG, yA, yM, yC, aL, aK, aU, aE, yR) (nI p) :=
  br_f (nI_pos (by omega)) (br_f (lt5' p hp) h)
theorem xp_pk0 {post : Int32 → Prop} {x : Int32} (hx : x < 0 ∨ nI 5 ≤ x) (h : post 0) : wpX_isPack post x := by
  by_cases z : x < 0
  · exact br_t z h
  · exact br_f z (br_t (hx.resolve_left z) h)
theorem yp_pk0 {post : Int32 → Prop} {x : Int32} (hx : x < 0 ∨ nI 5 ≤ x) (h : post 0) : wpY_goodPack post (fw, fp, fl, fk, yN, fg, yO, aO, aP, aD, aN, aT, aR, aH, aW, aG, yA, yM, yC, aL, aK, aU, aE, yR) x := by
  by_cases z : x < 0
  · exact br_t z h
  · exact br_f z (br_t (hx.resolve_left z) h)
theorem pd_pk (x : Int32) : (x < 0 ∨ nI 5 ≤ x) ∨ ∃ p, p < 5 ∧ x = nI p := by
  rcases pk_ix x (n := 5) (by omega) with h | h | h
  · exact Or.inl (Or.inl h)
  · exact Or.inl (Or.inr h)
  · exact Or.inr h
theorem pd_ve (x : Int32) : (x < 1 ∨ 9 < x) ∨ ∃ v, 1 ≤ v ∧ v ≤ 9 ∧ x = nI v := by
  by_cases z : x < 1
  · exact Or.inl (Or.inl z)
  · by_cases y : 9 < x
    · exact Or.inl (Or.inr y)
    · have h0 : ¬ x < 0 := fun q => z (Int32.lt_trans q (by decide))
      obtain ⟨j, hj, rfl⟩ := nI_of h0
      refine Or.inr ⟨j, ?_, ?_, rfl⟩
      · have : ¬ j < 1 := fun q => z (nI_lt (b := 1) q (by decide))
        omega
      · have : ¬ 9 < j := fun q => y (nI_lt (a := 9) q hj)
        omega
theorem xp_ve1 {post : Int32 → Prop} {v : Nat} (h1 : 1 ≤ v) (h9 : v ≤ 9) (h : post 1) : wpX_isVersion post (nI v) :=
  br_f (nI_nlt (b := 1) h1 (by omega)) (br_f (nI_nlt (a := 9) h9 (by decide)) h)
theorem yp_ve1 {post : Int32 → Prop} {v : Nat} (h1 : 1 ≤ v) (h9 : v ≤ 9) (h : post 1) : wpY_goodVersion post (fw, fp, fl, fk, yN, fg, yO, aO, aP, aD, aN, aT, aR, aH, aW, aG, yA, yM, yC, aL, aK, aU, aE, yR) (nI v) :=
  br_f (nI_nlt (b := 1) h1 (by omega)) (br_f (nI_nlt (a := 9) h9 (by decide)) h)
theorem xp_ve0 {post : Int32 → Prop} {x : Int32} (hx : x < 1 ∨ 9 < x) (h : post 0) : wpX_isVersion post x := by
  by_cases z : x < 1
  · exact br_t z h
  · exact br_f z (br_t (hx.resolve_left z) h)
theorem yp_ve0 {post : Int32 → Prop} {x : Int32} (hx : x < 1 ∨ 9 < x) (h : post 0) : wpY_goodVersion post (fw, fp, fl, fk, yN, fg, yO, aO, aP, aD, aN, aT, aR, aH, aW, aG, yA, yM, yC, aL, aK, aU, aE, yR) x := by
  by_cases z : x < 1
  · exact br_t z h
  · exact br_f z (br_t (hx.resolve_left z) h)
def pd_GR (x : Int32) : Prop := ∃ n, 11 ≤ n ∧ n ≤ 99 ∧ n / 10 ≤ n % 10 ∧ x = nI n
theorem pd_d10 {n : Nat} (h : n < 2 ^ 31) : nI n / 10 = nI (n / 10) := pk_div (d := 10) h (by omega) (by omega)
theorem pd_m10 {n : Nat} (h : n < 2 ^ 31) : nI n - nI n / 10 * 10 = nI (n % 10) := pk_rem (d := 10) h (by omega) (by omega)
theorem pd_neg10 {x : Int32} (h : x < 0) : x / 10 < 1 := by
  rw [Int32.lt_iff_toInt_lt] at h ⊢
  rw [Int32.toInt_div]
  have e0 : (0 : Int32).toInt = 0 := by decide
  have e1 : (1 : Int32).toInt = 1 := by decide
  have e10 : (10 : Int32).toInt = 10 := by decide
  rw [e0] at h
  rw [e1, e10]
  have hlo := Int32.le_toInt x
  have e2 : x.toInt.tdiv 10 = -((-x.toInt).tdiv 10) := by rw [Int.neg_tdiv, Int.neg_neg]
  have h3 : 0 ≤ (-x.toInt).tdiv 10 := Int.tdiv_nonneg (by omega) (by omega)
  have h4 : (-x.toInt).tdiv 10 ≤ -x.toInt := by
    rw [Int.tdiv_eq_ediv_of_nonneg (by omega)]
    omega
  rw [e2, Int.bmod_eq_of_le (by omega) (by omega)]
  omega
theorem xp_rg {post : Int32 → Prop} {x : Int32} (h1 : pd_GR x → post 1) (h0 : ¬ pd_GR x → post 0) : wpX_isRange post x := by
  unfold wpX_isRange
  refine ⟨by decide, ?_⟩
  by_cases z : x < 0
  · refine nm_e ⟨by decide, nm_e (br_t (pd_neg10 z) (h0 ?_))⟩
    rintro ⟨n, _, hn, _, e⟩
    rw [e] at z
    exact nI_pos (by omega) z
  · obtain ⟨n, hn, rfl⟩ := nI_of z
    refine nm_r (pd_d10 hn) ⟨by decide, nm_r (pd_m10 hn) ?_⟩
    have inj : ∀ m, m ≤ 99 → nI n = nI m → n = m := fun m hm e => (nI_eq hn (by omega)).mp e
    refine pk_lt (n / 10) 1 (fun a => h0 ?_) (fun a => pk_lt (n % 10) (n / 10) (fun b => h0 ?_) (fun b => h1 ⟨n, by omega, by omega, b, rfl⟩) rfl rfl (by omega) (by omega)) rfl rfl (by omega) (by omega)
    · rintro ⟨m, c1, c2, c3, e⟩
      have := inj m c2 e
      omega
    · rintro ⟨m, c1, c2, c3, e⟩
      have := inj m c2 e
      subst this
      omega
theorem yp_rg {post : Int32 → Prop} {x : Int32} (h1 : pd_GR x → post 1) (h0 : ¬ pd_GR x → post 0) : wpY_goodRange post (fw, fp, fl, fk, yN, fg, yO, aO, aP, aD, aN, aT, aR, aH, aW, aG, yA, yM, yC, aL, aK, aU, aE, yR) x := by
  unfold wpY_goodRange
  dsimp only
  by_cases z : x < 0
  · refine br_t (Int32.lt_trans z (by decide)) (h0 ?_)
    rintro ⟨n, _, hn, _, e⟩
    rw [e] at z
    exact nI_pos (by omega) z
  · obtain ⟨n, hn, rfl⟩ := nI_of z
    have inj : ∀ m, m ≤ 99 → nI n = nI m → n = m := fun m hm e => (nI_eq hn (by omega)).mp e
    rw [pd_m10 hn, pd_d10 hn]
    refine pk_lt n 11 (fun a => h0 ?_) (fun a => pk_lt 99 n (fun b => h0 ?_) (fun b => ⟨by decide, by decide, pk_lt (n % 10) (n / 10) (fun d => h0 ?_) (fun d => h1 ⟨n, by omega, by omega, d, rfl⟩) rfl rfl (by omega) (by omega)⟩) rfl rfl (by omega) (by omega)) rfl rfl (by omega) (by omega)
    · rintro ⟨m, c1, c2, c3, e⟩
      have := inj m c2 e
      omega
    · rintro ⟨m, c1, c2, c3, e⟩
      have := inj m c2 e
      omega
    · rintro ⟨m, c1, c2, c3, e⟩
      have := inj m c2 e
      subst this
      omega
theorem yp_co {post : Int32 → Prop} {p : Nat} (hp : p < 5) (h : post (nI (pd_L aO p).length)) : wpY_countOf post (fw, fp, fl, fk, yN, fg, yO, aO, aP, aD, aN, aT, aR, aH, aW, aG, yA, yM, yC, aL, aK, aU, aE, yR) (nI p) := by
  have key : ∀ g i, i + g = 9 → wY_countOf_4 post (nI p) fw fp fl fk yN fg yO aO aP aD aN aT aR aH aW aG yA yM yC aL aK aU aE yR (g + 1) (nI (pd_ds (pd_h aO p) i).length) (nI (i + 1)) := by
    intro g
    induction g with
    | zero =>
      intro i hi
      have e : i = 9 := by omega
      subst e
      exact br_t (by decide) h
    | succ g ih =>
      intro i hi
      have i2 := ih (i + 1) (by omega)
      refine br_f (nI_ge (b := 10) (by omega) (by decide)) ?_
      rw [pd_l10, nI_clamp (n := 10 * p + (i + 1)) (by omega)]
      refine ⟨vp_in_nI (by omega) (by omega), br_c (fun z => nm_r (nI_1 _) ?_) (fun z => nm_r (nI_1 _) (nm_r (nI_1 _) ?_))⟩
      · rw [pd_dsN (pd_h0 z)] at i2
        exact i2
      · rw [pd_dsP (pd_h1 z), List.length_cons] at i2
        exact i2
  exact ⟨10, key 9 0 rfl⟩
theorem pd_Lo {p q v : Nat} {x : Int32} (hv : v ≤ 9) (hqp : ¬ q = p) : pd_L (upd aO (10 * p + v) x) q = pd_L aO q := by
  unfold pd_L
  apply pd_ds_congr
  intro u h1 h9
  unfold pd_h
  rw [pk_un (by omega)]
theorem pd_Lp {p v : Nat} {x : Int32} (h1 : 1 ≤ v) (hv : v ≤ 9) (h0 : aO (10 * p + v) = 0) (hx : ¬ x = 0) : (pd_L (upd aO (10 * p + v) x) p).length = (pd_L aO p).length + 1 := by
  unfold pd_L
  refine pd_ds_add (v := v) (pd_h0 h0) (pd_h1 (by rw [pk_us]; exact hx)) ?_ h1 9 hv
  intro u hu
  unfold pd_h
  rw [pk_un (by omega)]
theorem pd_Lm {p v : Nat} {x : Int32} (h1 : 1 ≤ v) (hv : v ≤ 9) (h0 : ¬ aO (10 * p + v) = 0) (hx : x = 0) : (pd_L aO p).length = (pd_L (upd aO (10 * p + v) x) p).length + 1 := by
  unfold pd_L
  refine pd_ds_add (v := v) (pd_h0 (by rw [pk_us]; exact hx)) (pd_h1 h0) ?_ h1 9 hv
  intro u hu
  unfold pd_h
  rw [pk_un (by omega)]
end
