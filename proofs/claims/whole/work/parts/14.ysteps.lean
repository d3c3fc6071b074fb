/-! Y's stepAt and steps; how many steps there are -/
variable {fw fp fl fk fc fg yN yO : Int32} {aV aO aP aD aN aT aR aH aW aG aL aK aU aE tA tM tB tO tS yA yM yC yR : Nat → Int32}
theorem yp_sa {post : Int32 → SY → Prop} {kn c g j : Nat} (hj : j < 2 ^ 31) (hk : fk = nI kn) (hG : pd_GI kn c g aU aE) (hg : g < 2 ^ 31) (hn : yN = aU c) (hI : pd_I aD aT aW) (h9 : pd_9 aL)
    (h : ∀ o a, post ((pd_SL (pd_cu aE c) aL (gr_st (pd_R aO aD aN aT aL) (pd_U aL) 5).2).getD j (-4)) (fw, fp, fl, fk, yN, fg, o, aO, aP, aD, aN, aT, aR, aH, aW, aG, yA, yM, yC, aL, aK, aU, aE, a)) : wpY_stepAt post (fw, fp, fl, fk, yN, fg, yO, aO, aP, aD, aN, aT, aR, aH, aW, aG, yA, yM, yC, aL, aK, aU, aE, yR) (nI j) := by
  have hV := pd_RU (aO := aO) (aD := aD) (aN := aN) (aT := aT) (aL := aL)
  have hL5 := (gr_inv hV 5).1
  have hlen := gr_len hV 5
  have h6 := hG.2.1
  have hc := hG.2.2.1
  have second : ∀ (o : Int32) (a : Nat → Int32), o = nI (gr_st (pd_R aO aD aN aT aL) (pd_U aL) 5).2.length → pd_AL a (gr_st (pd_R aO aD aN aT aL) (pd_U aL) 5).2 → ∀ g i, i + g = (gr_st (pd_R aO aD aN aT aL) (pd_U aL) 5).2.length → (pd_rm (pd_cu aE c) aL 5 ++ pd_pl (pd_cu aE c) aL (gr_st (pd_R aO aD aN aT aL) (pd_U aL) 5).2 i).length ≤ j → wY_stepAt_64 post (nI j) fw fp fl fk yN fg o aO aP aD aN aT aR aH aW aG yA yM yC aL aK aU aE a (g + 1) (nI (pd_rm (pd_cu aE c) aL 5 ++ pd_pl (pd_cu aE c) aL (gr_st (pd_R aO aD aN aT aL) (pd_U aL) 5).2 i).length) (nI i) := by
    intro o a eo ho g'
    induction g' with
    | zero =>
      intro i hi hle
      have e : i = (gr_st (pd_R aO aD aN aT aL) (pd_U aL) 5).2.length := by omega
      subst e
      have h' := h o a
      rw [pd_gout (A := pd_SL (pd_cu aE c) aL (gr_st (pd_R aO aD aN aT aL) (pd_U aL) 5).2) hle] at h'
      exact br_t (by rw [eo]; exact nI_le (Nat.le_refl _) (by omega)) h'
    | succ g' ih =>
      intro i hi hle
      have hi5 : i < 5 := by omega
      have hq5 := pd_get5 hL5 (show i < (gr_st (pd_R aO aD aN aT aL) (pd_U aL) 5).2.length by omega)
      have i2 := ih (i + 1) (by omega)
      obtain ⟨t, et⟩ := pd_plp (pd_cu aE c) aL (gr_st (pd_R aO aD aN aT aL) (pd_U aL) 5).2 (i + 1) g'
      rw [show i + 1 + g' = (gr_st (pd_R aO aD aN aT aL) (pd_U aL) 5).2.length by omega] at et
      rw [pd_pl] at i2 et
      refine br_f (by rw [eo]; exact nI_ge (by omega) (by omega)) ⟨vp_in_nI hi5 (by omega), nm_r (e' := nI ((gr_st (pd_R aO aD aN aT aL) (pd_U aL) 5).2.getD i 0)) (by rw [nI_clamp (by omega)]; exact ho i (by omega)) ?_⟩
      generalize hq : (gr_st (pd_R aO aD aN aT aL) (pd_U aL) 5).2.getD i 0 = q at *
      rw [nI_clamp (n := q) (by omega)]
      refine ⟨vp_in_nI hq5 (by omega), yp_gv hk hG hg hn hq5 (br_c (fun z => nm_r (nI_1 i) ?_) (fun z => ?_))⟩
      · have z' : aL q = pd_cu aE c q := z
        rw [if_pos z', List.append_nil] at i2
        exact i2 hle
      · have z' : ¬ aL q = pd_cu aE c q := z
        rw [if_neg z'] at et
        rw [if_neg z', ← List.append_assoc] at i2
        refine pk_eq (pd_rm (pd_cu aE c) aL 5 ++ pd_pl (pd_cu aE c) aL (gr_st (pd_R aO aD aN aT aL) (pd_U aL) 5).2 i).length j (fun w => ⟨vp_in_nI hq5 (by omega), ?_⟩) (fun w => ?_) rfl rfl (by omega) hj
        · have h' := h o a
          have e2 : pd_SL (pd_cu aE c) aL (gr_st (pd_R aO aD aN aT aL) (pd_U aL) 5).2 = (pd_rm (pd_cu aE c) aL 5 ++ pd_pl (pd_cu aE c) aL (gr_st (pd_R aO aD aN aT aL) (pd_U aL) 5).2 i) ++ ((200 + (10 * nI q)) + aL q) :: t := by
            unfold pd_SL
            rw [et, List.append_assoc, List.append_assoc]
            rfl
          rw [e2, ← w, pd_gmid] at h'
          exact h'
        · refine nm_r (nI_1 _) (nm_r (nI_1 i) ?_)
          rw [List.length_append (bs := [(200 + (10 * nI q)) + aL q])] at i2
          exact i2 (by have : [(200 + (10 * nI q)) + aL q].length = 1 := rfl; omega)
  have fin : (pd_rm (pd_cu aE c) aL 5).length ≤ j → wpY_arrange (fun u => match u with | (fw_3, fp_3, fl_3, fk_3, yN_3, fg_3, yO_3, aO_3, aP_3, aD_3, aN_3, aT_3, aR_3, aH_3, aW_3, aG_3, yA_3, yM_3, yC_3, aL_3, aK_3, aU_3, aE_3, yR_3) => (∃ n64 : Nat, wY_stepAt_64 post (nI j) fw_3 fp_3 fl_3 fk_3 yN_3 fg_3 yO_3 aO_3 aP_3 aD_3 aN_3 aT_3 aR_3 aH_3 aW_3 aG_3 yA_3 yM_3 yC_3 aL_3 aK_3 aU_3 aE_3 yR_3 n64 (nI (pd_rm (pd_cu aE c) aL 5).length) 0)) (fw, fp, fl, fk, yN, fg, yO, aO, aP, aD, aN, aT, aR, aH, aW, aG, yA, yM, yC, aL, aK, aU, aE, yR) := by
    intro hle
    refine yp_ar hI h9 (fun a ha => ?_)
    have k0 := second _ a rfl ha (gr_st (pd_R aO aD aN aT aL) (pd_U aL) 5).2.length 0 (by omega) (by rw [show pd_pl (pd_cu aE c) aL (gr_st (pd_R aO aD aN aT aL) (pd_U aL) 5).2 0 = [] from rfl, List.append_nil]; exact hle)
    rw [show pd_pl (pd_cu aE c) aL (gr_st (pd_R aO aD aN aT aL) (pd_U aL) 5).2 0 = [] from rfl, List.append_nil] at k0
    exact ⟨_, k0⟩
  have one : ∀ p, p < 5 → ∀ (W : Int32 → Int32 → Prop), (pd_rm (pd_cu aE c) aL (4 - p)).length ≤ j →
      ((pd_rm (pd_cu aE c) aL (4 - p + 1)).length ≤ j → W (nI (pd_rm (pd_cu aE c) aL (4 - p + 1)).length) (nI p + (-1))) →
      wpY_given (fun r_62 => (((r_62 ≤ 0 → (∀ x3_88 : Int32, x3_88 = nI p + (-1) → (W (nI (pd_rm (pd_cu aE c) aL (4 - p)).length) x3_88))) ∧ (¬ r_62 ≤ 0 → (wpY_given (fun r_89 => (vp_in (nI p) 5 ∧ (((r_89 = (aL (nI p).toNatClampNeg) → (∀ x3_116 : Int32, x3_116 = nI p + (-1) → (W (nI (pd_rm (pd_cu aE c) aL (4 - p)).length) x3_116))) ∧ (¬ r_89 = (aL (nI p).toNatClampNeg) → ((((nI (pd_rm (pd_cu aE c) aL (4 - p)).length) = nI j → (wpY_given (fun r_120 => (post ((100 + (10 * nI p)) + r_120) (fw, fp, fl, fk, yN, fg, yO, aO, aP, aD, aN, aT, aR, aH, aW, aG, yA, yM, yC, aL, aK, aU, aE, yR))) (fw, fp, fl, fk, yN, fg, yO, aO, aP, aD, aN, aT, aR, aH, aW, aG, yA, yM, yC, aL, aK, aU, aE, yR) (nI p))) ∧ (¬ (nI (pd_rm (pd_cu aE c) aL (4 - p)).length) = nI j → (∀ x2_118 : Int32, x2_118 = (nI (pd_rm (pd_cu aE c) aL (4 - p)).length) + 1 → (∀ x3_119 : Int32, x3_119 = nI p + (-1) → (W x2_118 x3_119))))))))))) (fw, fp, fl, fk, yN, fg, yO, aO, aP, aD, aN, aT, aR, aH, aW, aG, yA, yM, yC, aL, aK, aU, aE, yR) (nI p)))))) (fw, fp, fl, fk, yN, fg, yO, aO, aP, aD, aN, aT, aR, aH, aW, aG, yA, yM, yC, aL, aK, aU, aE, yR) (nI p) := by
    intro p hp W hle hW
    obtain ⟨v, hv, ev⟩ := hG.2.2.2.2 (5 * c + p) (by omega)
    have ev' : pd_cu aE c p = nI v := ev
    obtain ⟨t, et⟩ := pd_rmp (pd_cu aE c) aL (4 - p + 1) p
    rw [show 4 - p + 1 + p = 5 by omega] at et
    have e1 : pd_rm (pd_cu aE c) aL (4 - p + 1) = pd_rm (pd_cu aE c) aL (4 - p) ++ (if pd_cu aE c p = 0 ∨ pd_cu aE c p = aL p then [] else [(100 + (10 * nI p)) + pd_cu aE c p]) := by
      rw [pd_rm, show 4 - (4 - p) = p by omega]
    rw [e1] at hW et
    refine yp_gv hk hG hg hn hp ?_
    rw [ev]
    refine pk_le v 0 (fun z => nm_e ?_) (fun z => yp_gv hk hG hg hn hp ⟨vp_in_nI hp (by omega), ?_⟩) rfl rfl (by omega) (by omega)
    · rw [if_pos (Or.inl (by rw [ev', show v = 0 by omega]; rfl)), List.append_nil] at hW
      exact hW hle
    · rw [nI_clamp (n := p) (by omega)]
      refine br_c (fun z2 => nm_e ?_) (fun z2 => ?_)
      · have z' : pd_cu aE c p = aL p := z2
        rw [if_pos (Or.inr z'), List.append_nil] at hW
        exact hW hle
      · have z' : ¬ (pd_cu aE c p = 0 ∨ pd_cu aE c p = aL p) := fun q => q.elim (fun q => nI_ne0 z (by omega) (ev'.symm.trans q)) z2
        rw [if_neg z'] at hW et
        refine pk_eq (pd_rm (pd_cu aE c) aL (4 - p)).length j (fun w => yp_gv hk hG hg hn hp ?_) (fun w => nm_r (nI_1 _) (nm_e ?_)) rfl rfl (by omega) hj
        · have h' := h yO yR
          have e2 : pd_SL (pd_cu aE c) aL (gr_st (pd_R aO aD aN aT aL) (pd_U aL) 5).2 = pd_rm (pd_cu aE c) aL (4 - p) ++ ((100 + (10 * nI p)) + pd_cu aE c p) :: (t ++ pd_pl (pd_cu aE c) aL (gr_st (pd_R aO aD aN aT aL) (pd_U aL) 5).2 (gr_st (pd_R aO aD aN aT aL) (pd_U aL) 5).2.length) := by
            unfold pd_SL
            rw [et, List.append_assoc, List.append_assoc]
            rfl
          rw [e2, ← w, pd_gmid] at h'
          exact h'
        · rw [List.length_append] at hW
          exact hW (by have : [(100 + (10 * nI p)) + pd_cu aE c p].length = 1 := rfl; omega)
  have first : ∀ p, p < 5 → (pd_rm (pd_cu aE c) aL (4 - p)).length ≤ j → wY_stepAt_4 post (nI j) fw fp fl fk yN fg yO aO aP aD aN aT aR aH aW aG yA yM yC aL aK aU aE yR (p + 2) (nI (pd_rm (pd_cu aE c) aL (4 - p)).length) (nI p) := by
    intro p
    induction p with
    | zero =>
      intro hp hle
      exact br_f (nI_pos (by omega)) (one 0 hp (wY_stepAt_4 post (nI j) fw fp fl fk yN fg yO aO aP aD aN aT aR aH aW aG yA yM yC aL aK aU aE yR (0 + 1)) hle (fun hle' => br_t (by decide) (fin hle')))
    | succ p ih =>
      intro hp hle
      refine br_f (nI_pos (by omega)) (one (p + 1) hp (wY_stepAt_4 post (nI j) fw fp fl fk yN fg yO aO aP aD aN aT aR aH aW aG yA yM yC aL aK aU aE yR (p + 1 + 1)) hle (fun hle' => ?_))
      rw [pk_m1]
      have i2 := ih (by omega)
      rw [show 4 - p = 4 - (p + 1) + 1 by omega] at i2
      exact i2 hle'
  exact ⟨6, first 4 (by omega) (Nat.zero_le _)⟩
def pd_ns (cu aL : Nat → Int32) : Nat → Nat
  | 0 => 0
  | p + 1 => pd_ns cu aL p + (if cu p = 0 ∨ cu p = aL p then 0 else 1) + (if aL p = 0 ∨ aL p = cu p then 0 else 1)
theorem yp_stp {post : Int32 → Prop} {kn c g : Nat} (hp : ¬ fp = 0) (hk : fk = nI kn) (hG : pd_GI kn c g aU aE) (hg : g < 2 ^ 31) (hn : yN = aU c) (h9 : pd_9 aL)
    (h : post (nI (pd_ns (pd_cu aE c) aL 5))) : wpY_steps post (fw, fp, fl, fk, yN, fg, yO, aO, aP, aD, aN, aT, aR, aH, aW, aG, yA, yM, yC, aL, aK, aU, aE, yR) := by
  have h6 := hG.2.1
  have hc := hG.2.2.1
  have key : ∀ g i, i + g = 5 → wY_steps_14 post fw fp fl fk yN fg yO aO aP aD aN aT aR aH aW aG yA yM yC aL aK aU aE yR (g + 1) (nI (pd_ns (pd_cu aE c) aL i)) (nI i) := by
    intro g'
    induction g' with
    | zero =>
      intro i hi
      have e : i = 5 := by omega
      subst e
      exact br_t (by decide) h
    | succ g' ih =>
      intro i hi
      have hi5 : i < 5 := by omega
      have i2 := ih (i + 1) (by omega)
      obtain ⟨v, hv, ev⟩ := hG.2.2.2.2 (5 * c + i) (by omega)
      obtain ⟨u, hu, eu⟩ := h9 i hi5
      have ev' : pd_cu aE c i = nI v := ev
      have half : ∀ s, nI s = nI (pd_ns (pd_cu aE c) aL i + (if pd_cu aE c i = 0 ∨ pd_cu aE c i = aL i then 0 else 1)) → wY_steps_44 post (wY_steps_14 post fw fp fl fk yN fg yO aO aP aD aN aT aR aH aW aG yA yM yC aL aK aU aE yR (g' + 1)) (nI s) (nI i) fw fp fl fk yN fg yO aO aP aD aN aT aR aH aW aG yA yM yC aL aK aU aE yR := by
        intro s es
        refine ⟨vp_in_nI hi5 (by omega), ?_⟩
        rw [nI_clamp (n := i) (by omega), eu]
        refine pk_le u 0 (fun z => nm_r (nI_1 i) ?_) (fun z => yp_gv hk hG hg hn hi5 ⟨vp_in_nI hi5 (by omega), br_c (fun z2 => nm_r (nI_1 i) ?_) (fun z2 => nm_r (nI_1 _) (nm_r (nI_1 i) ?_))⟩) rfl rfl (by omega) (by omega)
        · have e3 := (by rw [pd_ns, if_pos (show aL i = 0 ∨ aL i = pd_cu aE c i from Or.inl (by rw [eu, show u = 0 by omega]; rfl))] : pd_ns (pd_cu aE c) aL (i + 1) = pd_ns (pd_cu aE c) aL i + (if pd_cu aE c i = 0 ∨ pd_cu aE c i = aL i then 0 else 1) + 0).trans (Nat.add_zero _)
          rw [e3, ← es] at i2
          exact i2
        · have e3 := (by rw [pd_ns, if_pos (show aL i = 0 ∨ aL i = pd_cu aE c i from Or.inr (eu.trans z2.symm))] : pd_ns (pd_cu aE c) aL (i + 1) = pd_ns (pd_cu aE c) aL i + (if pd_cu aE c i = 0 ∨ pd_cu aE c i = aL i then 0 else 1) + 0).trans (Nat.add_zero _)
          rw [e3, ← es] at i2
          exact i2
        · rw [pd_ns, if_neg (show ¬ (aL i = 0 ∨ aL i = pd_cu aE c i) from fun q => q.elim (fun q => nI_ne0 z (by omega) (eu.symm.trans q)) (fun q => z2 (q.symm.trans eu))), ← nI_1, ← es, nI_1] at i2
          exact i2
      refine br_f (lt5' i hi5) (yp_gv hk hG hg hn hi5 ?_)
      rw [ev]
      refine pk_le v 0 (fun z => half _ ?_) (fun z => yp_gv hk hG hg hn hi5 ⟨vp_in_nI hi5 (by omega), ?_⟩) rfl rfl (by omega) (by omega)
      · rw [if_pos (Or.inl (by rw [ev', show v = 0 by omega]; rfl)), Nat.add_zero]
      · rw [nI_clamp (n := i) (by omega)]
        refine br_c (fun z2 => half _ ?_) (fun z2 => nm_r (nI_1 _) (half _ ?_))
        · have z' : pd_cu aE c i = aL i := z2
          rw [if_pos (Or.inr z'), Nat.add_zero]
        · have z' : ¬ (pd_cu aE c i = 0 ∨ pd_cu aE c i = aL i) := fun q => q.elim (fun q => nI_ne0 z (by omega) (ev'.symm.trans q)) z2
          rw [if_neg z']
  exact br_f hp ⟨6, key 5 0 rfl⟩
theorem pd_pln (cu aL : Nat → Int32) (L : List Nat) : ∀ i, i ≤ L.length → (pd_pl cu aL L i).length = (L.take i).countP (fun p => !decide (aL p = cu p)) := by
  intro i
  induction i with
  | zero => intro _; rfl
  | succ i ih =>
    intro hi
    have e1 : L.getD i 0 = L[i] := by rw [List.getD_eq_getElem?_getD, List.getElem?_eq_getElem (by omega)]; rfl
    rw [pd_pl, List.length_append, ih (by omega), List.take_add_one, List.getElem?_eq_getElem (by omega), List.countP_append, e1]
    split
    · rename_i z
      rw [show (some L[i]).toList = [L[i]] from rfl, List.countP_singleton, decide_eq_true z]
      rfl
    · rename_i z
      rw [show (some L[i]).toList = [L[i]] from rfl, List.countP_singleton, decide_eq_false z]
      rfl
theorem pd_SLl (cu : Nat → Int32) : (pd_SL cu aL (gr_st (pd_R aO aD aN aT aL) (pd_U aL) 5).2).length = pd_ns cu aL 5 := by
  have hV := pd_RU (aO := aO) (aD := aD) (aN := aN) (aT := aT) (aL := aL)
  have hL5 := (gr_inv hV 5).1
  have q : ∀ p, p < 5 → (if (!decide (aL p = cu p)) = true then (gr_st (pd_R aO aD aN aT aL) (pd_U aL) 5).2.count p else 0) = (if aL p = 0 ∨ aL p = cu p then 0 else 1) := by
    intro p hp
    obtain ⟨a, b⟩ := gr_end hV hp
    by_cases z : aL p = cu p
    · rw [decide_eq_true z, if_pos (Or.inr z)]; rfl
    · rw [decide_eq_false z, if_pos (show (!false) = true from rfl)]
      by_cases y : aL p = 0
      · rw [if_pos (Or.inl y), b (fun w => w y)]
      · rw [if_neg (fun w => w.elim y z), a y]
  unfold pd_SL
  rw [List.length_append, pd_pln cu aL (gr_st (pd_R aO aD aN aT aL) (pd_U aL) 5).2 _ (Nat.le_refl _), List.take_length, gr_cnt5 _ _ hL5, q 0 (by omega), q 1 (by omega), q 2 (by omega), q 3 (by omega), q 4 (by omega)]
  have r : ∀ k, (pd_rm cu aL (k + 1)).length = (pd_rm cu aL k).length + (if cu (4 - k) = 0 ∨ cu (4 - k) = aL (4 - k) then 0 else 1) := by
    intro k
    rw [pd_rm, List.length_append]
    split <;> rfl
  rw [r 4, r 3, r 2, r 1, r 0]
  simp only [pd_ns, pd_rm, List.length_nil, Nat.sub_zero, Nat.reduceSub]
  omega
