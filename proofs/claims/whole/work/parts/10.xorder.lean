/-! X's walks through the order of the plan -/
variable {fw fp fl fk fc fg yN yO : Int32} {aV aO aP aD aN aT aR aH aW aG aL aK aU aE tA tM tB tO tS yA yM yC yR : Nat → Int32}
/-- a mask of packages -/
def pd_MS (m : Int32) (P : Nat → Prop) : Prop := ∀ y, y < 32 → (bt m y = true ↔ (y < 5 ∧ P y))
theorem pd_MSc {m : Int32} {P P' : Nat → Prop} (h : pd_MS m P) (e : ∀ y, y < 5 → (P y ↔ P' y)) : pd_MS m P' := by
  intro y hy
  rw [h y hy]
  constructor
  · rintro ⟨a, b⟩; exact ⟨a, (e y a).mp b⟩
  · rintro ⟨a, b⟩; exact ⟨a, (e y a).mpr b⟩
theorem pd_MS0 {P : Nat → Prop} (h : ∀ y, y < 5 → ¬ P y) : pd_MS 0 P := by
  intro y hy
  rw [b_0]
  exact ⟨fun z => (by cases z), fun z => absurd z.2 (h y z.1)⟩
theorem pd_MSo {a b : Int32} {P P' : Nat → Prop} (h : pd_MS a P) (h' : pd_MS b P') : pd_MS (a ||| b) (fun y => P y ∨ P' y) := by
  intro y hy
  rw [b_or, Bool.or_eq_true, h y hy, h' y hy]
  constructor
  · rintro (⟨x, z⟩ | ⟨x, z⟩)
    · exact ⟨x, Or.inl z⟩
    · exact ⟨x, Or.inr z⟩
  · rintro ⟨x, z | z⟩
    · exact Or.inl ⟨x, z⟩
    · exact Or.inr ⟨x, z⟩
theorem pd_MS1 {o : Nat} (ho : o < 5) : pd_MS ((1 : Int32) <<< (nI o &&& 31)) (fun y => y = o) := by
  intro y hy
  rw [pd_bs o (by omega) hy, decide_eq_true_iff]
  exact ⟨fun z => ⟨by omega, z⟩, fun z => z.2⟩
theorem pd_MSd {a b : Int32} {P P' : Nat → Prop} (h : pd_MS a P) (h' : pd_MS b P') : pd_MS (a &&& (b ^^^ (-1))) (fun y => P y ∧ ¬ P' y) := by
  intro y hy
  rw [b_and, pd_bn b hy, Bool.and_eq_true, h y hy, Bool.not_eq_true', ← Bool.not_eq_true, h' y hy]
  constructor
  · rintro ⟨⟨x, z⟩, w⟩; exact ⟨x, z, fun q => w ⟨x, q⟩⟩
  · rintro ⟨x, z, w⟩; exact ⟨⟨x, z⟩, fun q => w q.2⟩
theorem pd_MSz {m : Int32} {P : Nat → Prop} (h : pd_MS m P) : m = 0 ↔ ∀ y, y < 5 → ¬ P y := by
  rw [pd_b0i]
  constructor
  · intro z y hy hp
    have := (h y (by omega)).mpr ⟨hy, hp⟩
    rw [z y (by omega)] at this
    cases this
  · intro z y hy
    cases q : bt m y
    · rfl
    · obtain ⟨a, b⟩ := (h y hy).mp q
      exact absurd b (z y a)
theorem pd_MSb0 {m : Int32} {P : Nat → Prop} (h : pd_MS m P) {j : Nat} (hj : j < 5) : ((m >>> (nI j &&& 31)) &&& 1) = 0 ↔ ¬ P j := by
  rw [pd_bit0 m (by omega), ← Bool.not_eq_true, h j (by omega)]
  exact ⟨fun z q => z ⟨hj, q⟩, fun z q => z q.2⟩
theorem pd_MSb1 {m : Int32} {P : Nat → Prop} (h : pd_MS m P) {j : Nat} (hj : j < 5) : ((m >>> (nI j &&& 31)) &&& 1) = 1 ↔ P j := by
  rw [pd_bit1 m (by omega), h j (by omega)]
  exact ⟨fun z => z.2, fun z => ⟨hj, z⟩⟩
theorem pd_MSx {m : Int32} {P P' : Nat → Prop} (h : pd_MS m P) (h' : pd_MS m P') {y : Nat} (hy : y < 5) : P y ↔ P' y :=
  ⟨fun z => ((h' y (by omega)).mp ((h y (by omega)).mpr ⟨hy, z⟩)).2, fun z => ((h y (by omega)).mp ((h' y (by omega)).mpr ⟨hy, z⟩)).2⟩
def pd_R (aO aD aN aT aL : Nat → Int32) (x y : Nat) : Prop := x < 5 ∧ y < 5 ∧ ¬ x = y ∧ ¬ aL x = 0 ∧ ¬ aL y = 0 ∧ ¬ aO (10 * x + (aL x).toNatClampNeg) = 0 ∧ ∃ i, i < (aD (10 * x + (aL x).toNatClampNeg)).toNatClampNeg ∧ ¬ aN (3 * (10 * x + (aL x).toNatClampNeg) + i) = 0 ∧ aT (3 * (10 * x + (aL x).toNatClampNeg) + i) = nI y
def pd_U (aL : Nat → Int32) (p : Nat) : Prop := ¬ aL p = 0
theorem pd_RU : ∀ x y, pd_R aO aD aN aT aL x y → pd_U aL x ∧ pd_U aL y := fun _ _ h => ⟨h.2.2.2.1, h.2.2.2.2.1⟩
/-- no demand of a version speaks of its own package -/
def pd_I2 (aD aT : Nat → Int32) : Prop := ∀ c, c < 50 → ∀ i, i < (aD c).toNatClampNeg → ¬ aT (3 * c + i) = nI (c / 10)
theorem xp_ro {post : Int32 → Prop} {x : Nat} (hx : x < 5) (hI : pd_I aD aT aW) (hI2 : pd_I2 aD aT) (h9 : pd_9 aL) (h : ∀ m, pd_MS m (pd_R aO aD aN aT aL x) → post m) : wpX_restsOn post (fw, fp, fl, fk, fc, fg, aV, aO, aP, aD, aN, aT, aR, aH, aW, aG, aL, aK, aU, aE, tA, tM, tB, tO, tS) (nI x) := by
  obtain ⟨v, hv, ev⟩ := h9 x hx
  have et : (aL x).toNatClampNeg = v := by rw [ev, nI_clamp (by omega)]
  have he : 10 * x + v < 50 := by omega
  obtain ⟨d, hd, hD⟩ := hI.1 _ he
  have key : ∀ e, e = 10 * x + v → ∀ g i, i + g = d → ∀ m, pd_MS m (fun y => ¬ aL y = 0 ∧ ∃ k, k < i ∧ ¬ aN (3 * e + k) = 0 ∧ aT (3 * e + k) = nI y) → (∀ m, pd_MS m (fun y => ¬ aL y = 0 ∧ ∃ k, k < d ∧ ¬ aN (3 * e + k) = 0 ∧ aT (3 * e + k) = nI y) → post m) → wX_restsOn_37 post (nI e) fw fp fl fk fc fg aV aO aP aD aN aT aR aH aW aG aL aK aU aE tA tM tB tO tS (g + 1) m (nI i) := by
    intro e ee
    rw [← ee] at hD he
    intro g
    induction g with
    | zero =>
      intro i hi m hm hpost
      refine ⟨vp_in_nI he (by omega), ?_⟩
      rw [nI_clamp (by omega), hD]
      have e2 : i = d := by omega
      rw [e2] at hm ⊢
      exact br_t (nI_le (Nat.le_refl _) (by omega)) (hpost m hm)
    | succ g ih =>
      intro i hi m hm hpost
      have hk : 3 * e + i < 150 := by omega
      obtain ⟨o, ho, eo⟩ := hI.2.1 (3 * e + i) hk
      refine ⟨vp_in_nI he (by omega), ?_⟩
      rw [nI_clamp (n := e) (by omega), hD]
      refine br_f (nI_ge (by omega) (by omega)) (nm_r (pd_l3 e i) ?_)
      rw [nI_clamp (n := 3 * e + i) (by omega), eo, nI_clamp (n := o) (by omega)]
      refine ⟨vp_in_nI hk (by omega), br_c (fun z => nm_r (nI_1 i) (ih (i + 1) (by omega) m ?_ hpost)) (fun z => ⟨vp_in_nI hk (by omega), vp_in_nI ho (by omega), br_c (fun z2 => nm_r (nI_1 i) (ih (i + 1) (by omega) m ?_ hpost)) (fun z2 => ⟨vp_in_nI hk (by omega), nm_e (nm_r (nI_1 i) (ih (i + 1) (by omega) _ ?_ hpost))⟩)⟩)⟩
      · refine pd_MSc hm (fun y hy => ?_)
        constructor
        · rintro ⟨a, k, b, c⟩; exact ⟨a, k, by omega, c⟩
        · rintro ⟨a, k, b, c1, c2⟩
          by_cases q : k = i
          · subst q; exact absurd z c1
          · exact ⟨a, k, by omega, c1, c2⟩
      · refine pd_MSc hm (fun y hy => ?_)
        constructor
        · rintro ⟨a, k, b, c⟩; exact ⟨a, k, by omega, c⟩
        · rintro ⟨a, k, b, c1, c2⟩
          by_cases q : k = i
          · subst q
            rw [eo, nI_eq (by omega) (by omega)] at c2
            subst c2
            exact absurd z2 a
          · exact ⟨a, k, by omega, c1, c2⟩
      · refine pd_MSc (pd_MSo hm (pd_MS1 ho)) (fun y hy => ?_)
        constructor
        · rintro (⟨a, k, b, c⟩ | a)
          · exact ⟨a, k, by omega, c⟩
          · subst a; exact ⟨z2, i, by omega, z, eo⟩
        · rintro ⟨a, k, b, c1, c2⟩
          by_cases q : k = i
          · subst q
            rw [eo, nI_eq (by omega) (by omega)] at c2
            exact Or.inr c2.symm
          · exact Or.inl ⟨a, k, by omega, c1, c2⟩
  refine ⟨vp_in_nI hx (by omega), nm_r (e' := nI (10 * x + v)) (by rw [nI_clamp (by omega), ev, pd_l10]) ⟨vp_in_nI hx (by omega), ?_⟩⟩
  rw [nI_clamp (n := x) (by omega), nI_clamp (n := 10 * x + v) (by omega)]
  refine br_c (fun z => h 0 (pd_MS0 (fun y _ q => q.2.2.2.1 z))) (fun z => ⟨vp_in_nI he (by omega), br_c (fun z2 => h 0 (pd_MS0 (fun y _ q => ?_))) (fun z2 => ⟨d + 1, key _ rfl d 0 (by omega) 0 (pd_MS0 (fun y _ q => ?_)) (fun m hm => h m (pd_MSc hm (fun y hy => ?_)))⟩)⟩)
  · have := q.2.2.2.2.2.1
    rw [et] at this
    exact this z2
  · obtain ⟨_, k, hk, _⟩ := q
    exact absurd hk (Nat.not_lt_zero _)
  · unfold pd_R
    rw [et, hD, nI_clamp (by omega)]
    constructor
    · rintro ⟨a, k, b, c1, c2⟩
      refine ⟨hx, hy, ?_, z, a, z2, k, b, c1, c2⟩
      intro q
      have := hI2 (10 * x + v) he k (by rw [hD, nI_clamp (by omega)]; exact b)
      rw [show (10 * x + v) / 10 = x by omega, c2, ← q] at this
      exact this rfl
    · rintro ⟨_, _, _, _, a, _, k, b, c1, c2⟩
      exact ⟨a, k, b, c1, c2⟩
theorem xp_fb {post : SX → Prop} (hI : pd_I aD aT aW) (hI2 : pd_I2 aD aT) (h9 : pd_9 aL) (h : ∀ b, (∀ x, x < 5 → pd_MS (b x) (gr_B (pd_R aO aD aN aT aL) 5 x)) → post (fw, fp, fl, fk, fc, fg, aV, aO, aP, aD, aN, aT, aR, aH, aW, aG, aL, aK, aU, aE, tA, tM, b, tO, tS)) : wpX_findBuilds post (fw, fp, fl, fk, fc, fg, aV, aO, aP, aD, aN, aT, aR, aH, aW, aG, aL, aK, aU, aE, tA, tM, tB, tO, tS) := by
  have inner : ∀ (J : Int32 → (Nat → Int32) → (Nat → Int32) → (Nat → Int32) → (Nat → Int32) → (Nat → Int32) → (Nat → Int32) → (Nat → Int32) → (Nat → Int32) → (Nat → Int32) → (Nat → Int32) → (Nat → Int32) → (Nat → Int32) → (Nat → Int32) → (Nat → Int32) → (Nat → Int32) → (Nat → Int32) → (Nat → Int32) → (Nat → Int32) → (Nat → Int32) → Prop) m, m < 5 → (∀ b, (∀ x, x < 5 → pd_MS (b x) (gr_B (pd_R aO aD aN aT aL) (m + 1) x)) → J (nI (m + 1)) aV aO aP aD aN aT aR aH aW aG aL aK aU aE tA tM b tO tS) → ∀ g q, q + g = 5 → ∀ b, (∀ x, x < q → pd_MS (b x) (gr_B (pd_R aO aD aN aT aL) (m + 1) x)) → (∀ x, q ≤ x → x < 5 → pd_MS (b x) (gr_B (pd_R aO aD aN aT aL) m x)) → wX_findBuilds_33 post J (nI m) fw fp fl fk fc fg (g + 1) (nI q) aV aO aP aD aN aT aR aH aW aG aL aK aU aE tA tM b tO tS := by
    intro J m hm hJ g
    induction g with
    | zero =>
      intro q hq b h1 h2
      have e : q = 5 := by omega
      subst e
      exact br_t (by decide) (nm_r (nI_1 m) (hJ b h1))
    | succ g ih =>
      intro q hq b h1 h2
      have hq5 : q < 5 := by omega
      have hbq := h2 q (Nat.le_refl _) hq5
      have hbm : pd_MS (b m) (gr_B (pd_R aO aD aN aT aL) m m) := by
        by_cases z : m < q
        · refine pd_MSc (h1 m z) (fun y hy => ?_)
          constructor
          · rintro (a | a)
            · exact a
            · exact a.2
          · exact Or.inl
        · exact h2 m (by omega) hm
      refine br_f (lt5' q hq5) ⟨vp_in_nI hq5 (by omega), ?_⟩
      rw [nI_clamp (n := q) (by omega), nI_clamp (n := m) (by omega), pd_MSb0 hbq hm]
      refine br_c (fun z => nm_r (nI_1 q) (ih (q + 1) (by omega) b ?_ (fun x a c => h2 x (by omega) c))) (fun z => ⟨vp_in_nI hq5 (by omega), vp_in_nI hm (by omega), vp_in_nI hq5 (by omega), nm_e (nm_r (nI_1 q) (ih (q + 1) (by omega) _ ?_ ?_))⟩)
      · intro x hx
        by_cases y : x = q
        · subst y
          refine pd_MSc hbq (fun y hy => ?_)
          constructor
          · exact Or.inl
          · rintro (a | a)
            · exact a
            · exact absurd a.1 z
        · exact h1 x (by omega)
      · intro x hx
        by_cases y : x = q
        · subst y
          rw [pk_us]
          refine pd_MSc (pd_MSo hbq hbm) (fun y hy => ?_)
          constructor
          · rintro (a | a)
            · exact Or.inl a
            · exact Or.inr ⟨Classical.not_not.mp z, a⟩
          · rintro (a | a)
            · exact Or.inl a
            · exact Or.inr a.2
        · rw [pk_un y]; exact h1 x (by omega)
      · intro x a c
        rw [pk_un (by omega)]
        exact h2 x (by omega) c
  have outer : ∀ g m, m + g = 5 → ∀ b, (∀ x, x < 5 → pd_MS (b x) (gr_B (pd_R aO aD aN aT aL) m x)) → wX_findBuilds_26 post fw fp fl fk fc fg (g + 1) (nI m) aV aO aP aD aN aT aR aH aW aG aL aK aU aE tA tM b tO tS := by
    intro g
    induction g with
    | zero =>
      intro m hm b hb
      have e : m = 5 := by omega
      subst e
      exact br_t (by decide) (h b hb)
    | succ g ih =>
      intro m hm b hb
      refine br_f (lt5' m (by omega)) ⟨6, inner _ m (by omega) (fun b' hb' => ih (m + 1) (by omega) b' hb') 5 0 rfl b (fun x hx => absurd hx (Nat.not_lt_zero _)) (fun x _ hx => hb x hx)⟩
  have first : ∀ g q, q + g = 5 → ∀ b, (∀ x, x < q → pd_MS (b x) (pd_R aO aD aN aT aL x)) → wX_findBuilds_2 post fw fp fl fk fc fg (g + 1) (nI q) aV aO aP aD aN aT aR aH aW aG aL aK aU aE tA tM b tO tS := by
    intro g
    induction g with
    | zero =>
      intro q hq b hb
      have e : q = 5 := by omega
      subst e
      exact br_t (by decide) ⟨6, outer 5 0 rfl b hb⟩
    | succ g ih =>
      intro q hq b hb
      have hq5 : q < 5 := by omega
      refine br_f (lt5' q hq5) (xp_ro hq5 hI hI2 h9 (fun m hm => ⟨vp_in_nI hq5 (by omega), ?_⟩))
      rw [nI_clamp (n := q) (by omega)]
      refine nm_e (nm_r (nI_1 q) (ih (q + 1) (by omega) _ ?_))
      intro x hx
      by_cases y : x = q
      · subst y; rw [pk_us]; exact hm
      · rw [pk_un y]; exact hb x (by omega)
  exact ⟨6, first 5 0 rfl tB (fun x hx => absurd hx (Nat.not_lt_zero _))⟩
theorem xp_go {post : Int32 → Prop} {R : Nat → Nat → Prop} {x : Nat} (hx : x < 5) (hb : ∀ x, x < 5 → pd_MS (tB x) (gr_B R 5 x)) (h : ∀ g, pd_MS g (gr_G R x) → post g) : wpX_groupOf post (fw, fp, fl, fk, fc, fg, aV, aO, aP, aD, aN, aT, aR, aH, aW, aG, aL, aK, aU, aE, tA, tM, tB, tO, tS) (nI x) := by
  have key : ∀ g q, q + g = 5 → ∀ m, pd_MS m (fun y => y = x ∨ (y < q ∧ gr_B R 5 x y ∧ gr_B R 5 y x)) → wX_groupOf_6 post (nI x) fw fp fl fk fc fg aV aO aP aD aN aT aR aH aW aG aL aK aU aE tA tM tB tO tS (g + 1) m (nI q) := by
    intro g
    induction g with
    | zero =>
      intro q hq m hm
      have e : q = 5 := by omega
      subst e
      refine br_t (by decide) (h m (pd_MSc hm (fun y hy => ?_)))
      constructor
      · rintro (a | a)
        · exact Or.inl a
        · exact Or.inr a.2
      · rintro (a | a)
        · exact Or.inl a
        · exact Or.inr ⟨hy, a⟩
    | succ g ih =>
      intro q hq m hm
      have hq5 : q < 5 := by omega
      refine br_f (lt5' q hq5) ⟨vp_in_nI hx (by omega), ?_⟩
      rw [nI_clamp (n := x) (by omega), nI_clamp (n := q) (by omega), pd_MSb0 (hb x hx) hq5, pd_MSb0 (hb q hq5) hx]
      refine br_c (fun z => nm_r (nI_1 q) (ih (q + 1) (by omega) m ?_)) (fun z => ⟨vp_in_nI hq5 (by omega), br_c (fun z2 => nm_r (nI_1 q) (ih (q + 1) (by omega) m ?_)) (fun z2 => nm_e (nm_r (nI_1 q) (ih (q + 1) (by omega) _ ?_)))⟩)
      · refine pd_MSc hm (fun y hy => ?_)
        constructor
        · rintro (a | ⟨a, b⟩)
          · exact Or.inl a
          · exact Or.inr ⟨by omega, b⟩
        · rintro (a | ⟨a, b⟩)
          · exact Or.inl a
          · by_cases e : y = q
            · subst e; exact absurd b.1 z
            · exact Or.inr ⟨by omega, b⟩
      · refine pd_MSc hm (fun y hy => ?_)
        constructor
        · rintro (a | ⟨a, b⟩)
          · exact Or.inl a
          · exact Or.inr ⟨by omega, b⟩
        · rintro (a | ⟨a, b⟩)
          · exact Or.inl a
          · by_cases e : y = q
            · subst e; exact absurd b.2 z2
            · exact Or.inr ⟨by omega, b⟩
      · refine pd_MSc (pd_MSo hm (pd_MS1 hq5)) (fun y hy => ?_)
        constructor
        · rintro ((a | ⟨a, b⟩) | a)
          · exact Or.inl a
          · exact Or.inr ⟨by omega, b⟩
          · subst a; exact Or.inr ⟨by omega, Classical.not_not.mp z, Classical.not_not.mp z2⟩
        · rintro (a | ⟨a, b⟩)
          · exact Or.inl (Or.inl a)
          · by_cases e : y = q
            · exact Or.inr e
            · exact Or.inl (Or.inr ⟨by omega, b⟩)
  refine nm_e ⟨6, key 5 0 rfl _ (pd_MSc (pd_MS1 hx) (fun y hy => ?_))⟩
  constructor
  · exact Or.inl
  · rintro (a | a)
    · exact a
    · exact absurd a.1 (Nat.not_lt_zero _)
theorem xp_ng {post : Int32 → Prop} {R : Nat → Nat → Prop} {P : Nat → Prop} {p : Int32} (hb : ∀ x, x < 5 → pd_MS (tB x) (gr_B R 5 x)) (hp : pd_MS p P) (h : ∀ g, pd_MS g (fun y => gr_nx (gr_C R (pd_U aL) P) < 5 ∧ gr_G R (gr_nx (gr_C R (pd_U aL) P)) y) → post g) : wpX_nextGroup post (fw, fp, fl, fk, fc, fg, aV, aO, aP, aD, aN, aT, aR, aH, aW, aG, aL, aK, aU, aE, tA, tM, tB, tO, tS) p := by
  have key : ∀ g q, q + g = 5 → (∀ s, s < q → ¬ gr_C R (pd_U aL) P s) → wX_nextGroup_2 post p fw fp fl fk fc fg aV aO aP aD aN aT aR aH aW aG aL aK aU aE tA tM tB tO tS (g + 1) (nI q) := by
    intro g
    induction g with
    | zero =>
      intro q hq hs
      have e : q = 5 := by omega
      subst e
      have eq := gr_nxu (C := gr_C R (pd_U aL) P) (Nat.le_refl 5) hs (fun z => absurd z (Nat.lt_irrefl _))
      refine br_t (by decide) (h 0 (pd_MS0 (fun y _ z => ?_)))
      rw [eq] at z
      exact absurd z.1 (Nat.lt_irrefl _)
    | succ g ih =>
      intro q hq hs
      have hq5 : q < 5 := by omega
      have nx : ¬ gr_C R (pd_U aL) P q → wX_nextGroup_2 post p fw fp fl fk fc fg aV aO aP aD aN aT aR aH aW aG aL aK aU aE tA tM tB tO tS (g + 1) (nI (q + 1)) := by
        intro z
        refine ih (q + 1) (by omega) (fun s hs' => ?_)
        by_cases e : s = q
        · subst e; exact z
        · exact hs s (by omega)
      refine br_f (lt5' q hq5) ⟨vp_in_nI hq5 (by omega), ?_⟩
      rw [nI_clamp (n := q) (by omega), pd_MSb0 hp hq5]
      refine br_c (fun z => nm_r (nI_1 q) (nx (fun c => c.1 z))) (fun z => br_c (fun z2 => xp_go hq5 hb (fun g hg => ⟨vp_in_nI hq5 (by omega), ?_⟩)) (fun z2 => nm_r (nI_1 q) (nx (fun c => z2 c.2.1))))
      have hz := pd_MSz (pd_MSd (hb q hq5) (pd_MSo hg hp))
      rw [hz]
      refine br_c (fun y => ?_) (fun y => nm_r (nI_1 q) (nx (fun c => y (fun k hk hk2 => hk2.2 (c.2.2 k hk hk2.1)))))
      have hC : gr_C R (pd_U aL) P q := ⟨z, z2, fun k hk hk2 => Classical.not_not.mp (fun n => y k hk ⟨hk2, n⟩)⟩
      have eq := gr_nxu (C := gr_C R (pd_U aL) P) (by omega) hs (fun _ => hC)
      rw [eq] at h
      exact h g (pd_MSc hg (fun k hk => ⟨fun w => ⟨hq5, w⟩, fun w => w.2⟩))
  exact ⟨6, key 5 0 rfl (fun s hs => absurd hs (Nat.not_lt_zero _))⟩
