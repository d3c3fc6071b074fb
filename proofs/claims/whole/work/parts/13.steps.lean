/-! generations by number; the list of steps -/
variable {fw fp fl fk fc fg yN yO : Int32} {aV aO aP aD aN aT aR aH aW aG aL aK aU aE tA tM tB tO tS yA yM yC yR : Nat → Int32}
def pd_GI (kn c g : Nat) (aU aE : Nat → Int32) : Prop := 1 ≤ kn ∧ kn ≤ 6 ∧ c < kn ∧ (∃ m : Nat → Nat, (∀ i, i < kn → aU i = nI (m i) ∧ m i ≤ g) ∧ (∀ i j, i < j → j < kn → m i < m j)) ∧ (∀ j, j < 30 → ∃ x, x ≤ 9 ∧ aE j = nI x)
theorem pd_GIu {kn c g i j : Nat} (hG : pd_GI kn c g aU aE) (hg : g < 2 ^ 31) (hi : i < kn) (hj : j < kn) (e : aU i = aU j) : i = j := by
  obtain ⟨_, _, _, ⟨m, h1, h2⟩, _⟩ := hG
  have a := h1 i hi
  have b := h1 j hj
  rw [a.1, b.1, nI_eq (by omega) (by omega)] at e
  rcases Nat.lt_trichotomy i j with h | h | h
  · have := h2 i j h hj; omega
  · exact h
  · have := h2 j i h hi; omega
theorem xp_slot {post : Int32 → Prop} {kn : Nat} {x : Int32} (hk : fk = nI kn) (hk6 : kn ≤ 6) (h1 : ∀ i, i < kn → aU i = x → (∀ j, j < i → ¬ aU j = x) → post (nI i)) (h0 : (∀ i, i < kn → ¬ aU i = x) → post (-1)) : wpX_slotOf post (fw, fp, fl, fk, fc, fg, aV, aO, aP, aD, aN, aT, aR, aH, aW, aG, aL, aK, aU, aE, tA, tM, tB, tO, tS) x := by
  have key : ∀ g i, i + g = kn → (∀ j, j < i → ¬ aU j = x) → wX_slotOf_2 post x fw fp fl fk fc fg aV aO aP aD aN aT aR aH aW aG aL aK aU aE tA tM tB tO tS (g + 1) (nI i) := by
    intro g
    induction g with
    | zero =>
      intro i hi hj
      have e : i = kn := by omega
      subst e
      exact br_t (by rw [hk]; exact nI_le (Nat.le_refl _) (by omega)) (h0 hj)
    | succ g ih =>
      intro i hi hj
      refine br_f (by rw [hk]; exact nI_ge (by omega) (by omega)) ⟨vp_in_nI (by omega) (by omega), ?_⟩
      rw [nI_clamp (n := i) (by omega)]
      refine br_c (fun z => h1 i (by omega) z hj) (fun z => nm_r (nI_1 i) (ih (i + 1) (by omega) ?_))
      intro j hj'
      by_cases q : j = i
      · subst q; exact z
      · exact hj j (by omega)
  exact ⟨kn + 1, key kn 0 (by omega) (fun j hj => absurd hj (Nat.not_lt_zero _))⟩
theorem yp_place {post : Int32 → Prop} {kn : Nat} {x : Int32} (hk : fk = nI kn) (hk6 : kn ≤ 6) (h1 : ∀ i, i < kn → aU i = x → (∀ j, j < i → ¬ aU j = x) → post (nI i)) (h0 : (∀ i, i < kn → ¬ aU i = x) → post (-1)) : wpY_place post (fw, fp, fl, fk, yN, fg, yO, aO, aP, aD, aN, aT, aR, aH, aW, aG, yA, yM, yC, aL, aK, aU, aE, yR) x := by
  have key : ∀ g i, i + g = kn → (∀ j, j < i → ¬ aU j = x) → wY_place_2 post x fw fp fl fk yN fg yO aO aP aD aN aT aR aH aW aG yA yM yC aL aK aU aE yR (g + 1) (nI i) := by
    intro g
    induction g with
    | zero =>
      intro i hi hj
      have e : i = kn := by omega
      subst e
      exact br_t (by rw [hk]; exact nI_le (Nat.le_refl _) (by omega)) (h0 hj)
    | succ g ih =>
      intro i hi hj
      refine br_f (by rw [hk]; exact nI_ge (by omega) (by omega)) ⟨vp_in_nI (by omega) (by omega), ?_⟩
      rw [nI_clamp (n := i) (by omega)]
      refine br_c (fun z => h1 i (by omega) z hj) (fun z => nm_r (nI_1 i) (ih (i + 1) (by omega) ?_))
      intro j hj'
      by_cases q : j = i
      · subst q; exact z
      · exact hj j (by omega)
  exact ⟨kn + 1, key kn 0 (by omega) (fun j hj => absurd hj (Nat.not_lt_zero _))⟩
theorem xp_cv {post : Int32 → Prop} {c p : Nat} (hc : fc = nI c) (hc6 : c < 6) (hp : p < 5) (h : post (aE (5 * c + p))) : wpX_currentVersion post (fw, fp, fl, fk, fc, fg, aV, aO, aP, aD, aN, aT, aR, aH, aW, aG, aL, aK, aU, aE, tA, tM, tB, tO, tS) (nI p) := by
  unfold wpX_currentVersion
  dsimp only
  rw [hc, pd_l5, nI_clamp (n := 5 * c + p) (by omega)]
  exact ⟨vp_in_nI (by omega) (by omega), h⟩
theorem yp_gv {post : Int32 → Prop} {kn c g p : Nat} (hk : fk = nI kn) (hG : pd_GI kn c g aU aE) (hg : g < 2 ^ 31) (hn : yN = aU c) (hp : p < 5) (h : post (aE (5 * c + p))) : wpY_given post (fw, fp, fl, fk, yN, fg, yO, aO, aP, aD, aN, aT, aR, aH, aW, aG, yA, yM, yC, aL, aK, aU, aE, yR) (nI p) := by
  unfold wpY_given
  have h6 := hG.2.1
  have hc := hG.2.2.1
  refine yp_place hk h6 (fun i hi e _ => ?_) (fun z => absurd hn.symm (z c hc))
  have : i = c := pd_GIu hG hg hi hc (e.trans hn)
  subst this
  rw [pd_l5, nI_clamp (n := 5 * i + p) (by omega)]
  exact ⟨vp_in_nI (by omega) (by omega), h⟩
def pd_rm (cu aL : Nat → Int32) : Nat → List Int32
  | 0 => []
  | k + 1 => pd_rm cu aL k ++ (if cu (4 - k) = 0 ∨ cu (4 - k) = aL (4 - k) then [] else [(100 + (10 * nI (4 - k))) + cu (4 - k)])
def pd_pl (cu aL : Nat → Int32) (L : List Nat) : Nat → List Int32
  | 0 => []
  | i + 1 => pd_pl cu aL L i ++ (if aL (L.getD i 0) = cu (L.getD i 0) then [] else [(200 + (10 * nI (L.getD i 0))) + aL (L.getD i 0)])
def pd_SL (cu aL : Nat → Int32) (L : List Nat) : List Int32 := pd_rm cu aL 5 ++ pd_pl cu aL L L.length
def pd_AS (a : Nat → Int32) (l : List Int32) : Prop := ∀ i, i < l.length → a i = l.getD i (-4)
theorem pd_gapp {A B : List Int32} {d : Nat} (h : d < A.length) : (A ++ B).getD d (-4) = A.getD d (-4) := by
  rw [List.getD_eq_getElem?_getD, List.getD_eq_getElem?_getD, List.getElem?_append_left h]
theorem pd_gmid {A B : List Int32} {x : Int32} : (A ++ x :: B).getD A.length (-4) = x := by
  rw [List.getD_eq_getElem?_getD, List.getElem?_append_right (Nat.le_refl _), Nat.sub_self]
  rfl
theorem pd_gout {A : List Int32} {d : Nat} (h : A.length ≤ d) : A.getD d (-4) = -4 := by
  rw [List.getD_eq_getElem?_getD, List.getElem?_eq_none h]
  rfl
theorem pd_ASa {a : Nat → Int32} {l : List Int32} (h : pd_AS a l) (x : Int32) : pd_AS (upd a l.length x) (l ++ [x]) := by
  intro i hi
  rw [List.length_append] at hi
  have e1 : [x].length = 1 := rfl
  by_cases z : i = l.length
  · subst z; rw [pk_us, pd_gmid]
  · rw [pk_un z, pd_gapp (by omega)]
    exact h i (by omega)
theorem pd_rml (cu aL : Nat → Int32) : ∀ k, (pd_rm cu aL k).length ≤ k := by
  intro k
  induction k with
  | zero => exact Nat.le_refl _
  | succ k ih =>
    rw [pd_rm, List.length_append]
    split
    · have : ([] : List Int32).length = 0 := rfl
      omega
    · have : ∀ x : Int32, [x].length = 1 := fun _ => rfl
      rw [this]; omega
theorem pd_pll (cu aL : Nat → Int32) (L : List Nat) : ∀ k, (pd_pl cu aL L k).length ≤ k := by
  intro k
  induction k with
  | zero => exact Nat.le_refl _
  | succ k ih =>
    rw [pd_pl, List.length_append]
    split
    · have : ([] : List Int32).length = 0 := rfl
      omega
    · have : ∀ x : Int32, [x].length = 1 := fun _ => rfl
      rw [this]; omega
theorem pd_rmp (cu aL : Nat → Int32) (k : Nat) : ∀ j, ∃ t, pd_rm cu aL (k + j) = pd_rm cu aL k ++ t := by
  intro j
  induction j with
  | zero => exact ⟨[], (List.append_nil _).symm⟩
  | succ j ih =>
    obtain ⟨t, e⟩ := ih
    rw [← Nat.add_assoc, pd_rm, e]
    exact ⟨_, List.append_assoc _ _ _⟩
theorem pd_plp (cu aL : Nat → Int32) (L : List Nat) (k : Nat) : ∀ j, ∃ t, pd_pl cu aL L (k + j) = pd_pl cu aL L k ++ t := by
  intro j
  induction j with
  | zero => exact ⟨[], (List.append_nil _).symm⟩
  | succ j ih =>
    obtain ⟨t, e⟩ := ih
    rw [← Nat.add_assoc, pd_pl, e]
    exact ⟨_, List.append_assoc _ _ _⟩
theorem pd_get5 {L : List Nat} (h : ∀ x, x ∈ L → x < 5) {i : Nat} (hi : i < L.length) : L.getD i 0 < 5 := by
  rw [List.getD_eq_getElem?_getD, List.getElem?_eq_getElem hi]
  exact h _ (List.getElem_mem hi)
def pd_cu (aE : Nat → Int32) (c : Nat) : Nat → Int32 := fun p => aE (5 * c + p)
theorem xp_ls {post : Int32 → SX → Prop} {c : Nat} (hc : fc = nI c) (hc6 : c < 6) (hI : pd_I aD aT aW) (hI2 : pd_I2 aD aT) (h9 : pd_9 aL)
    (h : ∀ b o s, pd_AS s (pd_SL (pd_cu aE c) aL (gr_st (pd_R aO aD aN aT aL) (pd_U aL) 5).2) → post (nI (pd_SL (pd_cu aE c) aL (gr_st (pd_R aO aD aN aT aL) (pd_U aL) 5).2).length) (fw, fp, fl, fk, fc, fg, aV, aO, aP, aD, aN, aT, aR, aH, aW, aG, aL, aK, aU, aE, tA, tM, b, o, s)) : wpX_listSteps post (fw, fp, fl, fk, fc, fg, aV, aO, aP, aD, aN, aT, aR, aH, aW, aG, aL, aK, aU, aE, tA, tM, tB, tO, tS) := by
  have hV := pd_RU (aO := aO) (aD := aD) (aN := aN) (aT := aT) (aL := aL)
  have hL5 := (gr_inv hV 5).1
  have hlen := gr_len hV 5
  have hrm := pd_rml (pd_cu aE c) aL 5
  have second : ∀ (b o : Nat → Int32), pd_AL o (gr_st (pd_R aO aD aN aT aL) (pd_U aL) 5).2 → ∀ g i, i + g = (gr_st (pd_R aO aD aN aT aL) (pd_U aL) 5).2.length → ∀ s, pd_AS s (pd_rm (pd_cu aE c) aL 5 ++ pd_pl (pd_cu aE c) aL (gr_st (pd_R aO aD aN aT aL) (pd_U aL) 5).2 i) → wX_listSteps_59 post (nI (gr_st (pd_R aO aD aN aT aL) (pd_U aL) 5).2.length) fw fp fl fk fc fg (g + 1) (nI (pd_rm (pd_cu aE c) aL 5 ++ pd_pl (pd_cu aE c) aL (gr_st (pd_R aO aD aN aT aL) (pd_U aL) 5).2 i).length) (nI i) aV aO aP aD aN aT aR aH aW aG aL aK aU aE tA tM b o s := by
    intro b o ho g
    induction g with
    | zero =>
      intro i hi s hs
      have e : i = (gr_st (pd_R aO aD aN aT aL) (pd_U aL) 5).2.length := by omega
      subst e
      exact br_t (nI_le (Nat.le_refl _) (by omega)) (h b o s hs)
    | succ g ih =>
      intro i hi s hs
      have hi5 : i < 5 := by omega
      have hq5 := pd_get5 hL5 (show i < (gr_st (pd_R aO aD aN aT aL) (pd_U aL) 5).2.length by omega)
      have hpl := pd_pll (pd_cu aE c) aL (gr_st (pd_R aO aD aN aT aL) (pd_U aL) 5).2 i
      have hln : (pd_rm (pd_cu aE c) aL 5 ++ pd_pl (pd_cu aE c) aL (gr_st (pd_R aO aD aN aT aL) (pd_U aL) 5).2 i).length < 10 := by rw [List.length_append]; omega
      have i2 := ih (i + 1) (by omega)
      rw [pd_pl] at i2
      refine br_f (nI_ge (by omega) (by omega)) ⟨vp_in_nI hi5 (by omega), nm_r (e' := nI ((gr_st (pd_R aO aD aN aT aL) (pd_U aL) 5).2.getD i 0)) (by rw [nI_clamp (by omega)]; exact ho i (by omega)) ?_⟩
      generalize hq : (gr_st (pd_R aO aD aN aT aL) (pd_U aL) 5).2.getD i 0 = q at *
      rw [nI_clamp (n := q) (by omega)]
      refine ⟨vp_in_nI hq5 (by omega), xp_cv hc hc6 hq5 (br_c (fun z => nm_r (nI_1 i) ?_) (fun z => ⟨vp_in_nI hq5 (by omega), ?_⟩))⟩
      · have z' : aL q = pd_cu aE c q := z
        rw [if_pos z', List.append_nil] at i2
        exact i2 s hs
      · have z' : ¬ aL q = pd_cu aE c q := z
        rw [if_neg z', ← List.append_assoc] at i2
        rw [nI_clamp (n := (pd_rm (pd_cu aE c) aL 5 ++ pd_pl (pd_cu aE c) aL (gr_st (pd_R aO aD aN aT aL) (pd_U aL) 5).2 i).length) (by omega)]
        refine ⟨vp_in_nI hln (by omega), nm_e (nm_r (nI_1 _) (nm_r (nI_1 i) ?_))⟩
        have i3 := i2 _ (pd_ASa hs ((200 + (10 * nI q)) + aL q))
        rw [List.length_append (bs := [(200 + (10 * nI q)) + aL q])] at i3
        exact i3
  have fin : ∀ s, pd_AS s (pd_rm (pd_cu aE c) aL 5) → wpX_orderPlan (fun r_2 u => match u with | (fw_3, fp_3, fl_3, fk_3, fc_3, fg_3, aV_3, aO_3, aP_3, aD_3, aN_3, aT_3, aR_3, aH_3, aW_3, aG_3, aL_3, aK_3, aU_3, aE_3, tA_3, tM_3, tB_3, tO_3, tS_3) => (∃ n59 : Nat, wX_listSteps_59 post r_2 fw_3 fp_3 fl_3 fk_3 fc_3 fg_3 n59 (nI (pd_rm (pd_cu aE c) aL 5).length) 0 aV_3 aO_3 aP_3 aD_3 aN_3 aT_3 aR_3 aH_3 aW_3 aG_3 aL_3 aK_3 aU_3 aE_3 tA_3 tM_3 tB_3 tO_3 tS_3)) (fw, fp, fl, fk, fc, fg, aV, aO, aP, aD, aN, aT, aR, aH, aW, aG, aL, aK, aU, aE, tA, tM, tB, tO, s) := by
    intro s hs
    refine xp_op hI hI2 h9 (fun b o ho => ?_)
    have k0 := second b o ho (gr_st (pd_R aO aD aN aT aL) (pd_U aL) 5).2.length 0 (by omega) s (by rw [show pd_pl (pd_cu aE c) aL (gr_st (pd_R aO aD aN aT aL) (pd_U aL) 5).2 0 = [] from rfl, List.append_nil]; exact hs)
    rw [show pd_pl (pd_cu aE c) aL (gr_st (pd_R aO aD aN aT aL) (pd_U aL) 5).2 0 = [] from rfl, List.append_nil] at k0
    exact ⟨_, k0⟩
  have first : ∀ p, p < 5 → ∀ s, pd_AS s (pd_rm (pd_cu aE c) aL (4 - p)) → wX_listSteps_4 post fw fp fl fk fc fg (p + 2) (nI (pd_rm (pd_cu aE c) aL (4 - p)).length) (nI p) aV aO aP aD aN aT aR aH aW aG aL aK aU aE tA tM tB tO s := by
    intro p
    induction p with
    | zero =>
      intro hp s hs
      have hl4 := pd_rml (pd_cu aE c) aL (4 - 0)
      have e5 : pd_rm (pd_cu aE c) aL 5 = pd_rm (pd_cu aE c) aL 4 ++ (if pd_cu aE c 0 = 0 ∨ pd_cu aE c 0 = aL 0 then [] else [(100 + (10 * nI 0)) + pd_cu aE c 0]) := rfl
      have nx : ∀ s', pd_AS s' (pd_rm (pd_cu aE c) aL 5) → wX_listSteps_4 post fw fp fl fk fc fg (0 + 1) (nI (pd_rm (pd_cu aE c) aL 5).length) (-1) aV aO aP aD aN aT aR aH aW aG aL aK aU aE tA tM tB tO s' := fun s' hs' => br_t (by decide) (fin s' hs')
      refine br_f (nI_pos (by omega)) (xp_cv hc hc6 hp (br_c (fun z => nm_r (e' := -1) (by decide) ?_) (fun z => ⟨vp_in_nI hp (by omega), ?_⟩)))
      · have z' : pd_cu aE c 0 = 0 := z
        rw [e5, if_pos (Or.inl z'), List.append_nil] at nx
        exact nx s hs
      · rw [nI_clamp (n := 0) (by omega)]
        refine br_c (fun z2 => nm_r (e' := -1) (by decide) ?_) (fun z2 => ?_)
        · have z' : pd_cu aE c 0 = aL 0 := z2
          rw [e5, if_pos (Or.inr z'), List.append_nil] at nx
          exact nx s hs
        · have z' : ¬ (pd_cu aE c 0 = 0 ∨ pd_cu aE c 0 = aL 0) := fun q => q.elim z z2
          rw [e5, if_neg z'] at nx
          rw [nI_clamp (n := (pd_rm (pd_cu aE c) aL (4 - 0)).length) (by omega)]
          refine ⟨vp_in_nI (show (pd_rm (pd_cu aE c) aL (4 - 0)).length < 10 by omega) (by omega), nm_e (nm_r (nI_1 _) (nm_r (e' := -1) (by decide) ?_))⟩
          have i3 := nx _ (pd_ASa hs ((100 + (10 * nI 0)) + pd_cu aE c 0))
          rw [List.length_append (bs := [(100 + (10 * nI 0)) + pd_cu aE c 0])] at i3
          exact i3
    | succ p ih =>
      intro hp s hs
      have hl4 := pd_rml (pd_cu aE c) aL (4 - (p + 1))
      have e4 : 4 - p = (4 - (p + 1)) + 1 := by omega
      have e6 : 4 - (4 - (p + 1)) = p + 1 := by omega
      have e5 : pd_rm (pd_cu aE c) aL (4 - p) = pd_rm (pd_cu aE c) aL (4 - (p + 1)) ++ (if pd_cu aE c (p + 1) = 0 ∨ pd_cu aE c (p + 1) = aL (p + 1) then [] else [(100 + (10 * nI (p + 1))) + pd_cu aE c (p + 1)]) := by
        rw [e4, pd_rm, e6]
      have nx := ih (by omega)
      refine br_f (nI_pos (by omega)) (xp_cv hc hc6 hp (br_c (fun z => nm_r (pk_m1 p) ?_) (fun z => ⟨vp_in_nI hp (by omega), ?_⟩)))
      · have z' : pd_cu aE c (p + 1) = 0 := z
        rw [e5, if_pos (Or.inl z'), List.append_nil] at nx
        exact nx s hs
      · rw [nI_clamp (n := p + 1) (by omega)]
        refine br_c (fun z2 => nm_r (pk_m1 p) ?_) (fun z2 => ?_)
        · have z' : pd_cu aE c (p + 1) = aL (p + 1) := z2
          rw [e5, if_pos (Or.inr z'), List.append_nil] at nx
          exact nx s hs
        · have z' : ¬ (pd_cu aE c (p + 1) = 0 ∨ pd_cu aE c (p + 1) = aL (p + 1)) := fun q => q.elim z z2
          rw [e5, if_neg z'] at nx
          rw [nI_clamp (n := (pd_rm (pd_cu aE c) aL (4 - (p + 1))).length) (by omega)]
          refine ⟨vp_in_nI (show (pd_rm (pd_cu aE c) aL (4 - (p + 1))).length < 10 by omega) (by omega), nm_e (nm_r (nI_1 _) (nm_r (pk_m1 p) ?_))⟩
          have i3 := nx _ (pd_ASa hs ((100 + (10 * nI (p + 1))) + pd_cu aE c (p + 1)))
          rw [List.length_append (bs := [(100 + (10 * nI (p + 1))) + pd_cu aE c (p + 1)])] at i3
          exact i3
  exact ⟨6, first 4 (by omega) tS (fun i hi => absurd hi (Nat.not_lt_zero _))⟩
