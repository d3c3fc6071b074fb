/-! Y's arrange -/
variable {fw fp fl fk fc fg yN yO : Int32} {aV aO aP aD aN aT aR aH aW aG aL aK aU aE tA tM tB tO tS yA yM yC yR : Nat → Int32}
theorem yp_arI {post : SY → Prop} {J : Int32 → Int32 → Int32 → (Nat → Int32) → (Nat → Int32) → (Nat → Int32) → (Nat → Int32) → (Nat → Int32) → (Nat → Int32) → (Nat → Int32) → (Nat → Int32) → (Nat → Int32) → (Nat → Int32) → (Nat → Int32) → (Nat → Int32) → (Nat → Int32) → (Nat → Int32) → (Nat → Int32) → (Nat → Int32) → (Nat → Int32) → Prop} {x1 x2 x4 : Int32} {S : Nat → Prop} {L : List Nat} (hm : pd_MS x4 S) (hlen : (L ++ gr_fl S 5).length ≤ 5)
    (hJ : ∀ a, pd_AL a (L ++ gr_fl S 5) → J (x1 ||| x4) (x2 + 1) (nI (L ++ gr_fl S 5).length) aO aP aD aN aT aR aH aW aG yA yM yC aL aK aU aE a) : ∀ g q, q + g = 5 → ∀ a, pd_AL a (L ++ gr_fl S q) → wY_arrange_104 post J x1 x2 x4 fw fp fl fk yN fg (g + 1) (nI q) (nI (L ++ gr_fl S q).length) aO aP aD aN aT aR aH aW aG yA yM yC aL aK aU aE a := by
  intro g
  induction g with
  | zero =>
    intro q hq a ha
    have e : q = 5 := by omega
    subst e
    exact br_t (by decide) (nm_e (nm_e (hJ a ha)))
  | succ g ih =>
    intro q hq a ha
    have hq5 : q < 5 := by omega
    refine br_f (lt5' q hq5) ?_
    rw [pd_MSb1 hm hq5]
    refine br_c (fun z' => ?_) (fun z => nm_r (nI_1 q) ?_)
    · have hl := gr_fll (S := S) (5 - (q + 1)) (q + 1)
      rw [show q + 1 + (5 - (q + 1)) = 5 by omega, gr_flP z', List.length_append] at hl
      rw [List.length_append] at hlen
      have e1 : [q].length = 1 := rfl
      have hb5 : (L ++ gr_fl S q).length < 5 := by rw [List.length_append]; omega
      rw [nI_clamp (n := (L ++ gr_fl S q).length) (by omega)]
      refine ⟨vp_in_nI hb5 (by omega), nm_e (nm_r (nI_1 _) (nm_r (nI_1 q) ?_))⟩
      have e2 : L ++ gr_fl S (q + 1) = (L ++ gr_fl S q) ++ [q] := by rw [gr_flP z', List.append_assoc]
      have i2 := ih (q + 1) (by omega) (upd a (L ++ gr_fl S q).length (nI q)) (by rw [e2]; exact pd_ALa ha q)
      rw [e2, List.length_append (bs := [q])] at i2
      exact i2
    · have i2 := ih (q + 1) (by omega) a (by rw [gr_flN z]; exact ha)
      rw [gr_flN z] at i2
      exact i2
/-- the least x not below s that may come next, or -1 -/
def pd_NX (C : Nat → Prop) (s : Nat) (x : Int32) : Prop := (∃ q, s ≤ q ∧ q < 5 ∧ C q ∧ (∀ t, s ≤ t → t < q → ¬ C t) ∧ x = nI q) ∨ ((∀ t, s ≤ t → t < 5 → ¬ C t) ∧ x = -1)
theorem yp_arN {post : SY → Prop} {J : Int32 → Int32 → Int32 → (Nat → Int32) → (Nat → Int32) → (Nat → Int32) → (Nat → Int32) → (Nat → Int32) → (Nat → Int32) → (Nat → Int32) → (Nat → Int32) → (Nat → Int32) → (Nat → Int32) → (Nat → Int32) → (Nat → Int32) → (Nat → Int32) → (Nat → Int32) → (Nat → Int32) → (Nat → Int32) → (Nat → Int32) → Prop} {x1 x2 : Int32} {P : Nat → Prop} (hI : pd_I aD aT aW) (h9 : pd_9 aL) (hp : pd_MS x1 P)
    (h : ∀ m, pd_MS m (fun y => gr_nx (gr_C (pd_R aO aD aN aT aL) (pd_U aL) P) < 5 ∧ gr_G (pd_R aO aD aN aT aL) (gr_nx (gr_C (pd_R aO aD aN aT aL) (pd_U aL) P)) y) → ∃ n, wY_arrange_104 post J x1 x2 m fw fp fl fk yN fg n 0 yO aO aP aD aN aT aR aH aW aG yA yM yC aL aK aU aE yR) :
    ∀ s, s ≤ 5 → ∀ x3 x4, pd_NX (gr_C (pd_R aO aD aN aT aL) (pd_U aL) P) s x3 → (s = 0 → x4 = -1) → (∀ t, s = t + 1 → x4 = nI t) → wY_arrange_19 post J x1 x2 fw fp fl fk yN fg yO aO aP aD aN aT aR aH aW aG yA yM yC aL aK aU aE yR (s + 1) x3 x4 := by
  intro s
  induction s with
  | zero =>
    intro _ x3 x4 hx e _
    rw [e rfl]
    refine br_t (by decide) ?_
    rcases hx with ⟨q, _, hq, hC, hN, ex⟩ | ⟨hN, ex⟩
    · rw [ex]
      have eq := gr_nxu (C := gr_C (pd_R aO aD aN aT aL) (pd_U aL) P) (by omega) (fun t ht => hN t (Nat.zero_le _) ht) (fun _ => hC)
      rw [eq] at h
      exact br_t (nI_pos' (by omega)) (yp_gp hq hI h9 (fun m hm => h m (pd_MSc hm (fun y _ => ⟨fun w => ⟨hq, w⟩, fun w => w.2⟩))))
    · rw [ex]
      have eq := gr_nxu (C := gr_C (pd_R aO aD aN aT aL) (pd_U aL) P) (Nat.le_refl 5) (fun t ht => hN t (Nat.zero_le _) ht) (fun w => absurd w (Nat.lt_irrefl _))
      rw [eq] at h
      exact br_f (by decide) (h 0 (pd_MS0 (fun y _ w => absurd w.1 (Nat.lt_irrefl _))))
  | succ s ih =>
    intro hs x3 x4 hx _ e
    have hs5 : s < 5 := by omega
    rw [e s rfl]
    obtain ⟨v, hv, ev⟩ := h9 s hs5
    have nxt : ∀ x3', pd_NX (gr_C (pd_R aO aD aN aT aL) (pd_U aL) P) s x3' → wY_arrange_19 post J x1 x2 fw fp fl fk yN fg yO aO aP aD aN aT aR aH aW aG yA yM yC aL aK aU aE yR (s + 1) x3' (nI s + (-1)) := by
      intro x3' hx'
      refine ih (by omega) x3' _ hx' (fun z => ?_) (fun t z => ?_)
      · subst z; decide
      · subst z; exact pk_m1 t
    have no : ¬ gr_C (pd_R aO aD aN aT aL) (pd_U aL) P s → pd_NX (gr_C (pd_R aO aD aN aT aL) (pd_U aL) P) s x3 := by
      intro z
      rcases hx with ⟨q, a, b, c, d, f⟩ | ⟨a, b⟩
      · refine Or.inl ⟨q, by omega, b, c, fun t h1 h2 => ?_, f⟩
        by_cases w : t = s
        · subst w; exact z
        · exact d t (by omega) h2
      · refine Or.inr ⟨fun t h1 h2 => ?_, b⟩
        by_cases w : t = s
        · subst w; exact z
        · exact a t (by omega) h2
    have yes : gr_C (pd_R aO aD aN aT aL) (pd_U aL) P s → pd_NX (gr_C (pd_R aO aD aN aT aL) (pd_U aL) P) s (nI s) := fun z => Or.inl ⟨s, Nat.le_refl _, hs5, z, fun t h1 h2 => absurd h1 (by omega), rfl⟩
    have skip : ¬ gr_C (pd_R aO aD aN aT aL) (pd_U aL) P s → wY_arrange_47 post J (wY_arrange_19 post J x1 x2 fw fp fl fk yN fg yO aO aP aD aN aT aR aH aW aG yA yM yC aL aK aU aE yR (s + 1)) x1 x2 x3 (nI s) fw fp fl fk yN fg yO aO aP aD aN aT aR aH aW aG yA yM yC aL aK aU aE yR := by
      intro z
      exact br_t rfl (nm_e (nxt x3 (no z)))
    refine br_f (nI_pos (by omega)) ⟨vp_in_nI hs5 (by omega), ?_⟩
    rw [nI_clamp (n := s) (by omega), pd_MSb0 hp hs5, ev]
    refine pk_le v 0 (fun z => skip (fun c => c.1 (by rw [ev, show v = 0 by omega]; rfl))) (fun z => br_c (fun z2 => ?_) (fun z2 => skip (fun c => z2 c.2.1))) rfl rfl (by omega) (by omega)
    have hU : pd_U aL s := by unfold pd_U; rw [ev]; exact nI_ne0 (by omega) (by omega)
    refine br_f (by decide) (yp_be hs5 hI h9 (fun m1 hm1 => yp_gp hs5 hI h9 (fun m2 hm2 => ?_)))
    rw [pd_MSz (pd_MSd (pd_MSd hm1 hm2) hp)]
    refine br_c (fun y => nm_e (nxt _ (yes ⟨hU, z2, fun k hk hk2 => ?_⟩))) (fun y => nm_e (nxt _ (no (fun c => y (fun k hk hk2 => ?_)))))
    · apply Classical.byContradiction
      intro w
      exact y k hk ⟨⟨hk2, fun g => w (Or.inl g)⟩, fun g => w (Or.inr g)⟩
    · rcases c.2.2 k hk hk2.1.1 with w | w
      · exact hk2.1.2 w
      · exact hk2.2 w
theorem yp_ar {post : SY → Prop} (hI : pd_I aD aT aW) (h9 : pd_9 aL) (h : ∀ a, pd_AL a (gr_st (pd_R aO aD aN aT aL) (pd_U aL) 5).2 → post (fw, fp, fl, fk, yN, fg, nI (gr_st (pd_R aO aD aN aT aL) (pd_U aL) 5).2.length, aO, aP, aD, aN, aT, aR, aH, aW, aG, yA, yM, yC, aL, aK, aU, aE, a)) : wpY_arrange post (fw, fp, fl, fk, yN, fg, yO, aO, aP, aD, aN, aT, aR, aH, aW, aG, yA, yM, yC, aL, aK, aU, aE, yR) := by
  have hV := pd_RU (aO := aO) (aD := aD) (aN := aN) (aT := aT) (aL := aL)
  have key : ∀ g r, r + g = 5 → ∀ x1 a, pd_MS x1 (gr_st (pd_R aO aD aN aT aL) (pd_U aL) r).1 → pd_AL a (gr_st (pd_R aO aD aN aT aL) (pd_U aL) r).2 → wY_arrange_9 post fw fp fl fk yN fg (g + 1) x1 (nI r) (nI (gr_st (pd_R aO aD aN aT aL) (pd_U aL) r).2.length) aO aP aD aN aT aR aH aW aG yA yM yC aL aK aU aE a := by
    intro g
    induction g with
    | zero =>
      intro r hr x1 a hm ha
      have e : r = 5 := by omega
      subst e
      exact br_t (by decide) (h a ha)
    | succ g ih =>
      intro r hr x1 a hm ha
      have hlen := gr_len hV (r + 1)
      refine br_f (lt5' r (by omega)) ⟨6, ?_⟩
      refine yp_arN hI h9 hm (fun m hmm => ⟨6, ?_⟩) 5 (Nat.le_refl _) (-1) 4 (Or.inr ⟨fun t h1 h2 => absurd h1 (by omega), rfl⟩) (fun z => by omega) (fun t z => by rw [show t = 4 by omega]; rfl)
      have hJ : ∀ a', pd_AL a' (gr_st (pd_R aO aD aN aT aL) (pd_U aL) (r + 1)).2 → wY_arrange_9 post fw fp fl fk yN fg (g + 1) (x1 ||| m) (nI r + 1) (nI (gr_st (pd_R aO aD aN aT aL) (pd_U aL) (r + 1)).2.length) aO aP aD aN aT aR aH aW aG yA yM yC aL aK aU aE a' := by
        intro a' ha'
        rw [nI_1]
        refine ih (r + 1) (by omega) _ a' ?_ ha'
        refine pd_MSc (pd_MSo hm hmm) (fun y hy => ?_)
        constructor
        · rintro (z | z)
          · exact Or.inl z
          · exact Or.inr ⟨hy, z⟩
        · rintro (z | z)
          · exact Or.inl z
          · exact Or.inr z.2
      have k0 := yp_arI (fw := fw) (fp := fp) (fl := fl) (fk := fk) (yN := yN) (fg := fg) (post := post) (J := wY_arrange_9 post fw fp fl fk yN fg (g + 1)) (x1 := x1) (x2 := nI r) (L := (gr_st (pd_R aO aD aN aT aL) (pd_U aL) r).2) hmm hlen hJ 5 0 rfl a (by rw [show gr_fl _ 0 = [] from rfl, List.append_nil]; exact ha)
      rw [show gr_fl _ 0 = [] from rfl, List.append_nil] at k0
      exact k0
  exact ⟨6, key 5 0 rfl 0 yR (pd_MS0 (fun y _ z => z)) (fun i hi => absurd hi (Nat.not_lt_zero _))⟩
