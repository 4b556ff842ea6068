theorem i_up {k : Nat} {u : SX} {v : SY} (h : i_Rel k u v) : i_Rel (k + 2) u v := h
theorem ax_cl {lo hi t : Nat} {x : Int32} {P : Int32 → Prop} (h : ∀ P : Int32 → Prop, P (nI t) → ((nI lo ≤ x → ((x ≤ nI hi → P x) ∧ (¬ x ≤ nI hi → P (nI hi)))) ∧ (¬ nI lo ≤ x → P (nI lo)))) (hp : P (nI t)) : wpX_clamp P x (nI lo) (nI hi) := h P hp
theorem i_vc0 (k0 : Int32) (k1 : Int32) : wpX_init (fun u => wpY_init (fun v => i_Rel 2 u v) k0 k1) k0 k1 := by
  obtain ⟨tl, t1, t2, ht⟩ := ad_cl 1 12 (by omega) (by omega) k0
  obtain ⟨lim, l1, l2, hl⟩ := ad_cl 8 64 (by omega) (by omega) k1
  unfold wpX_init
  refine ax_cl ht (ax_cl hl ?_)
  unfold wpY_init
  refine ht (fun z => wY_init_178 (fun v => i_Rel 2 (nI tl, nI lim, 0, 0, 0, 0, 0, 0, (fun _ => 0), (fun _ => 0), (fun _ => 0), (fun _ => 0), (fun _ => 0), (fun _ => 0), (fun _ => 0), (fun _ => 0), (fun _ => 0), (fun _ => 0), (fun _ => 0), (fun _ => 0), (fun _ => 0), (fun _ => 0), (fun _ => 0), (fun _ => 0), (fun _ => 0), (fun _ => 0)) v) k1 z 0 0 0 0 0 0 0 0 0 0 0 (fun _ => 0) (fun _ => 0) (fun _ => 0) (fun _ => 0) (fun _ => 0) (fun _ => 0) (fun _ => 0) (fun _ => 0) (fun _ => 0) (fun _ => 0) (fun _ => 0) (fun _ => 0) (fun _ => 0) (fun _ => 0) (fun _ => 0) (fun _ => 0) (fun _ => 0) (fun _ => 0) (fun _ => 0)) ?_
  unfold wY_init_178
  refine hl (fun z => i_Rel 2 (nI tl, nI lim, 0, 0, 0, 0, 0, 0, (fun _ => 0), (fun _ => 0), (fun _ => 0), (fun _ => 0), (fun _ => 0), (fun _ => 0), (fun _ => 0), (fun _ => 0), (fun _ => 0), (fun _ => 0), (fun _ => 0), (fun _ => 0), (fun _ => 0), (fun _ => 0), (fun _ => 0), (fun _ => 0), (fun _ => 0), (fun _ => 0)) (nI tl, z, 0, 0, 0, 0, 0, 0, 0, 0, 0, (fun _ => 0), (fun _ => 0), (fun _ => 0), (fun _ => 0), (fun _ => 0), (fun _ => 0), (fun _ => 0), (fun _ => 0), (fun _ => 0), (fun _ => 0), (fun _ => 0), (fun _ => 0), (fun _ => 0), (fun _ => 0), (fun _ => 0), (fun _ => 0), (fun _ => 0), (fun _ => 0), (fun _ => 0))) ?_
  refine ad_mk (g := (0, 0, fun _ => 0, fun _ => 0, fun _ => 0, fun _ => 0)) (k := 2) (tk := fun _ => 0) (n := 0) (c := 0) ?_
  have w : ad_wf (0, 0, fun _ => 0, fun _ => 0, fun _ => 0, fun _ => 0) := ⟨Nat.zero_le _, Nat.zero_le _, fun a ha => absurd ha (Nat.not_lt_zero a), fun a ha => absurd ha (Nat.not_lt_zero a)⟩
  exact ⟨⟨w, fun a ha => absurd ha (Nat.not_lt_zero a), fun a ha => absurd ha (Nat.not_lt_zero a)⟩, ⟨w, fun a ha => absurd ha (Nat.not_lt_zero a), fun a ha => absurd ha (Nat.not_lt_zero a)⟩, ⟨by omega, fun a ha => absurd ha (Nat.not_lt_zero a)⟩, fun a ha => absurd ha (Nat.not_lt_zero a), ⟨by omega, t1, t2, l1, l2, by omega⟩, rfl, fun z => absurd z (Nat.lt_irrefl 0), Or.inl rfl, fun _ _ => rfl, fun z => absurd z (Nat.lt_irrefl 0), fun _ => Or.inl rfl⟩
theorem i_vc_clearGrammar {k : Nat} {u : SX} {v : SY} (I : i_Rel k u v) (hk : k + 2 ≤ 1026) : wpX_clearGrammar (fun u' => wpY_clearGrammar (fun v' => i_Rel (k + 2) u' v') v) u := by
  obtain ⟨g, tk, n, lim, tl, c, f_compiled, f_resultError, hc, yD, yL, a_altRule, a_altNumber, a_altStart, a_altEnd, a_symbols, a_input, a_firstRules, a_spans, a_begun, a_symbolOf, a_altOf, a_parentOf, a_startOf, a_endOf, a_ambiguousOf, a_nextSymbol, a_stopSymbol, a_goalsOf, aL, yE, en, pr, fl, bg, re, yN, yA, yX, rfl, rfl, hR⟩ := I
  obtain ⟨h1, h2, h4, h5, h6, h7, h8, h9, h10, h11, h12⟩ := hR
  unfold wpX_clearGrammar wpY_clearGrammar
  dsimp only
  refine ad_mk (k := k + 2) (g := (0, 0, fun _ => 0, fun _ => 0, fun _ => 0, fun _ => 0)) (tk := tk) ?_
  have w : ad_wf (0, 0, fun _ => 0, fun _ => 0, fun _ => 0, fun _ => 0) := ⟨Nat.zero_le _, Nat.zero_le _, fun a ha => absurd ha (Nat.not_lt_zero a), fun a ha => absurd ha (Nat.not_lt_zero a)⟩
  exact ⟨⟨w, fun a ha => absurd ha (Nat.not_lt_zero a), fun a ha => absurd ha (Nat.not_lt_zero a)⟩, ⟨w, fun a ha => absurd ha (Nat.not_lt_zero a), fun a ha => absurd ha (Nat.not_lt_zero a)⟩, h4, fun a ha => absurd ha (Nat.not_lt_zero a), h6, rfl, fun z => absurd z (Nat.lt_irrefl 0), Or.inl rfl, h10, h11, h12⟩
theorem i_vc_clearInput {k : Nat} {u : SX} {v : SY} (I : i_Rel k u v) (hk : k + 2 ≤ 1026) : wpX_clearInput (fun u' => wpY_clearInput (fun v' => i_Rel (k + 2) u' v') v) u := by
  obtain ⟨g, tk, n, lim, tl, c, f_compiled, f_resultError, hc, yD, yL, a_altRule, a_altNumber, a_altStart, a_altEnd, a_symbols, a_input, a_firstRules, a_spans, a_begun, a_symbolOf, a_altOf, a_parentOf, a_startOf, a_endOf, a_ambiguousOf, a_nextSymbol, a_stopSymbol, a_goalsOf, aL, yE, en, pr, fl, bg, re, yN, yA, yX, rfl, rfl, hR⟩ := I
  obtain ⟨h1, h2, h4, h5, h6, h7⟩ := hR
  unfold wpX_clearInput wpY_clearInput
  dsimp only
  refine ad_mk (k := k + 2) (g := g) (tk := tk) (n := 0) ?_
  exact ⟨h1, h2, ⟨by omega, fun i hi => absurd hi (Nat.not_lt_zero i)⟩, h5, by omega, h7⟩
theorem i_vc_token {k : Nat} {u : SX} {v : SY} (I : i_Rel k u v) (hk : k + 2 ≤ 1026) (v1 : Int32) : wpX_token (fun r u' => wpY_token (fun r' v' => r' = r ∧ i_Rel (k + 2) u' v') v v1) u v1 := by
  obtain ⟨g, tk, n, lim, tl, c, f_compiled, f_resultError, hc, yD, yL, a_altRule, a_altNumber, a_altStart, a_altEnd, a_symbols, a_input, a_firstRules, a_spans, a_begun, a_symbolOf, a_altOf, a_parentOf, a_startOf, a_endOf, a_ambiguousOf, a_nextSymbol, a_stopSymbol, a_goalsOf, aL, yE, en, pr, fl, bg, re, yN, yA, yX, rfl, rfl, hR⟩ := I
  have h6 := hR.2.2.2.2.1
  rcases pk_ix v1 (n := 16) (by omega) with z | z | ⟨t, ht, rfl⟩
  · exact br_t z (br_t z ⟨rfl, ad_mk (k := k + 2) hR⟩)
  · obtain ⟨z1, z2, z3⟩ := ad_big (m := 15) (by omega) z
    exact br_f z1 (br_t z (br_f z1 (br_t z3 ⟨rfl, ad_mk (k := k + 2) hR⟩)))
  · refine br_f (nI_pos (by omega)) (br_f (nI_ge (b := 16) ht (by decide)) (pk_lt n tl (fun z => ?_) (fun z => ?_)))
    · have hin : vp_in (nI n) 12 := vp_in_nI (by omega) (by omega)
      refine ⟨hin, nm_r (e' := upd a_input n (nI t)) (by rw [nI_clamp (by omega)]) (nm_r (nI_1 n) ?_)⟩
      refine br_f (nI_pos (by omega)) (br_f (nI_nlt (a := 15) (Nat.le_of_lt_succ ht) (by decide)) (br_t (nI_lt z (by omega)) ⟨hin, nm_r (e' := upd a_input n (nI t)) (by rw [nI_clamp (by omega)]) (nm_r (nI_1 n) ⟨rfl, ad_mk (k := k + 2) (ad_R_tok hR z ht)⟩)⟩))
    · exact br_f (nI_pos (by omega)) (br_f (nI_nlt (a := 15) (Nat.le_of_lt_succ ht) (by decide)) (br_f (nI_nlt z (by omega)) ⟨rfl, ad_mk (k := k + 2) hR⟩))
theorem i_vc_errorPosition {k : Nat} {u : SX} {v : SY} (I : i_Rel k u v) (hk : k + 2 ≤ 1026) : wpX_errorPosition (fun r => wpY_errorPosition (fun r' => r' = r ∧ i_Rel (k + 2) u v) v) u := by
  obtain ⟨g, tk, n, lim, tl, c, f_compiled, f_resultError, hc, yD, yL, a_altRule, a_altNumber, a_altStart, a_altEnd, a_symbols, a_input, a_firstRules, a_spans, a_begun, a_symbolOf, a_altOf, a_parentOf, a_startOf, a_endOf, a_ambiguousOf, a_nextSymbol, a_stopSymbol, a_goalsOf, aL, yE, en, pr, fl, bg, re, yN, yA, yX, rfl, rfl, hR⟩ := I
  exact ⟨rfl, ad_mk (k := k + 2) hR⟩
theorem i_vc_nodeCount {k : Nat} {u : SX} {v : SY} (I : i_Rel k u v) (hk : k + 2 ≤ 1026) : wpX_nodeCount (fun r => wpY_nodeCount (fun r' => r' = r ∧ i_Rel (k + 2) u v) v) u := by
  obtain ⟨g, tk, n, lim, tl, c, f_compiled, f_resultError, hc, yD, yL, a_altRule, a_altNumber, a_altStart, a_altEnd, a_symbols, a_input, a_firstRules, a_spans, a_begun, a_symbolOf, a_altOf, a_parentOf, a_startOf, a_endOf, a_ambiguousOf, a_nextSymbol, a_stopSymbol, a_goalsOf, aL, yE, en, pr, fl, bg, re, yN, yA, yX, rfl, rfl, hR⟩ := I
  exact ⟨rfl, ad_mk (k := k + 2) hR⟩
theorem i_vc_nodeSymbol {k : Nat} {u : SX} {v : SY} (I : i_Rel k u v) (hk : k + 2 ≤ 1026) (v1 : Int32) : wpX_nodeSymbol (fun r => wpY_nodeSymbol (fun r' => r' = r ∧ i_Rel (k + 2) u v) v v1) u v1 := by
  obtain ⟨g, tk, n, lim, tl, c, f_compiled, f_resultError, hc, yD, yL, a_altRule, a_altNumber, a_altStart, a_altEnd, a_symbols, a_input, a_firstRules, a_spans, a_begun, a_symbolOf, a_altOf, a_parentOf, a_startOf, a_endOf, a_ambiguousOf, a_nextSymbol, a_stopSymbol, a_goalsOf, aL, yE, en, pr, fl, bg, re, yN, yA, yX, rfl, rfl, hR⟩ := I
  have h6 := hR.2.2.2.2.1
  unfold wpX_nodeSymbol
  dsimp only
  rcases pk_ix v1 (n := c) (by omega) with z | z | ⟨t, ht, rfl⟩
  · exact br_t z (br_t rfl (br_t z ⟨rfl, ad_mk (k := k + 2) hR⟩))
  · by_cases z0 : v1 < 0
    · exact br_t z0 (br_t rfl (br_t z0 ⟨rfl, ad_mk (k := k + 2) hR⟩))
    · exact br_f z0 (br_t z (br_t rfl (br_f z0 (br_f (Int32.not_lt.mpr z) ⟨rfl, ad_mk (k := k + 2) hR⟩))))
  · have hin : vp_in (nI t) 64 := vp_in_nI (by omega) (by omega)
    exact br_f (nI_pos (by omega)) (br_f (nI_ge ht (by omega)) (br_f (by decide) ⟨hin, br_f (nI_pos (by omega)) (br_t (nI_lt ht (by omega)) ⟨hin, rfl, ad_mk (k := k + 2) hR⟩)⟩))
theorem i_vc_nodeAlt {k : Nat} {u : SX} {v : SY} (I : i_Rel k u v) (hk : k + 2 ≤ 1026) (v1 : Int32) : wpX_nodeAlt (fun r => wpY_nodeAlt (fun r' => r' = r ∧ i_Rel (k + 2) u v) v v1) u v1 := by
  obtain ⟨g, tk, n, lim, tl, c, f_compiled, f_resultError, hc, yD, yL, a_altRule, a_altNumber, a_altStart, a_altEnd, a_symbols, a_input, a_firstRules, a_spans, a_begun, a_symbolOf, a_altOf, a_parentOf, a_startOf, a_endOf, a_ambiguousOf, a_nextSymbol, a_stopSymbol, a_goalsOf, aL, yE, en, pr, fl, bg, re, yN, yA, yX, rfl, rfl, hR⟩ := I
  have h6 := hR.2.2.2.2.1
  unfold wpX_nodeAlt
  dsimp only
  rcases pk_ix v1 (n := c) (by omega) with z | z | ⟨t, ht, rfl⟩
  · exact br_t z (br_t rfl (br_t z ⟨rfl, ad_mk (k := k + 2) hR⟩))
  · by_cases z0 : v1 < 0
    · exact br_t z0 (br_t rfl (br_t z0 ⟨rfl, ad_mk (k := k + 2) hR⟩))
    · exact br_f z0 (br_t z (br_t rfl (br_f z0 (br_f (Int32.not_lt.mpr z) ⟨rfl, ad_mk (k := k + 2) hR⟩))))
  · have hin : vp_in (nI t) 64 := vp_in_nI (by omega) (by omega)
    exact br_f (nI_pos (by omega)) (br_f (nI_ge ht (by omega)) (br_f (by decide) ⟨hin, br_f (nI_pos (by omega)) (br_t (nI_lt ht (by omega)) ⟨hin, rfl, ad_mk (k := k + 2) hR⟩)⟩))
theorem i_vc_nodeParent {k : Nat} {u : SX} {v : SY} (I : i_Rel k u v) (hk : k + 2 ≤ 1026) (v1 : Int32) : wpX_nodeParent (fun r => wpY_nodeParent (fun r' => r' = r ∧ i_Rel (k + 2) u v) v v1) u v1 := by
  obtain ⟨g, tk, n, lim, tl, c, f_compiled, f_resultError, hc, yD, yL, a_altRule, a_altNumber, a_altStart, a_altEnd, a_symbols, a_input, a_firstRules, a_spans, a_begun, a_symbolOf, a_altOf, a_parentOf, a_startOf, a_endOf, a_ambiguousOf, a_nextSymbol, a_stopSymbol, a_goalsOf, aL, yE, en, pr, fl, bg, re, yN, yA, yX, rfl, rfl, hR⟩ := I
  have h6 := hR.2.2.2.2.1
  have h11 := hR.2.2.2.2.2.2.2.2.2.1
  unfold wpX_nodeParent
  dsimp only
  rcases pk_ix v1 (n := c) (by omega) with z | z | ⟨t, ht, rfl⟩
  · exact br_t z (br_t rfl (br_t (Int32.le_of_lt z) ⟨rfl, ad_mk (k := k + 2) hR⟩))
  · by_cases z0 : v1 < 0
    · exact br_t z0 (br_t rfl (br_t (Int32.le_of_lt z0) ⟨rfl, ad_mk (k := k + 2) hR⟩))
    · refine br_f z0 (br_t z (br_t rfl (br_c (fun _ => ⟨rfl, ad_mk (k := k + 2) hR⟩) (fun _ => br_f (Int32.not_lt.mpr z) ⟨rfl, ad_mk (k := k + 2) hR⟩))))
  · have hin : vp_in (nI t) 64 := vp_in_nI (by omega) (by omega)
    refine br_f (nI_pos (by omega)) (br_f (nI_ge ht (by omega)) (br_f (by decide) ⟨hin, ?_⟩))
    by_cases e : t = 0
    · subst e
      exact br_t (by decide) ⟨(h11 ht).symm, ad_mk (k := k + 2) hR⟩
    · exact br_f (nI_nle (by omega) (by omega)) (br_t (nI_lt ht (by omega)) ⟨hin, rfl, ad_mk (k := k + 2) hR⟩)
theorem i_vc_nodeStart {k : Nat} {u : SX} {v : SY} (I : i_Rel k u v) (hk : k + 2 ≤ 1026) (v1 : Int32) : wpX_nodeStart (fun r => wpY_nodeStart (fun r' => r' = r ∧ i_Rel (k + 2) u v) v v1) u v1 := by
  obtain ⟨g, tk, n, lim, tl, c, f_compiled, f_resultError, hc, yD, yL, a_altRule, a_altNumber, a_altStart, a_altEnd, a_symbols, a_input, a_firstRules, a_spans, a_begun, a_symbolOf, a_altOf, a_parentOf, a_startOf, a_endOf, a_ambiguousOf, a_nextSymbol, a_stopSymbol, a_goalsOf, aL, yE, en, pr, fl, bg, re, yN, yA, yX, rfl, rfl, hR⟩ := I
  have h6 := hR.2.2.2.2.1
  unfold wpX_nodeStart
  dsimp only
  rcases pk_ix v1 (n := c) (by omega) with z | z | ⟨t, ht, rfl⟩
  · exact br_t z (br_t rfl (br_t z ⟨rfl, ad_mk (k := k + 2) hR⟩))
  · by_cases z0 : v1 < 0
    · exact br_t z0 (br_t rfl (br_t z0 ⟨rfl, ad_mk (k := k + 2) hR⟩))
    · exact br_f z0 (br_t z (br_t rfl (br_f z0 (br_f (Int32.not_lt.mpr z) ⟨rfl, ad_mk (k := k + 2) hR⟩))))
  · have hin : vp_in (nI t) 64 := vp_in_nI (by omega) (by omega)
    exact br_f (nI_pos (by omega)) (br_f (nI_ge ht (by omega)) (br_f (by decide) ⟨hin, br_f (nI_pos (by omega)) (br_t (nI_lt ht (by omega)) ⟨hin, rfl, ad_mk (k := k + 2) hR⟩)⟩))
theorem i_vc_nodeEnd {k : Nat} {u : SX} {v : SY} (I : i_Rel k u v) (hk : k + 2 ≤ 1026) (v1 : Int32) : wpX_nodeEnd (fun r => wpY_nodeEnd (fun r' => r' = r ∧ i_Rel (k + 2) u v) v v1) u v1 := by
  obtain ⟨g, tk, n, lim, tl, c, f_compiled, f_resultError, hc, yD, yL, a_altRule, a_altNumber, a_altStart, a_altEnd, a_symbols, a_input, a_firstRules, a_spans, a_begun, a_symbolOf, a_altOf, a_parentOf, a_startOf, a_endOf, a_ambiguousOf, a_nextSymbol, a_stopSymbol, a_goalsOf, aL, yE, en, pr, fl, bg, re, yN, yA, yX, rfl, rfl, hR⟩ := I
  have h6 := hR.2.2.2.2.1
  have h10 := hR.2.2.2.2.2.2.2.2.1
  unfold wpX_nodeEnd
  dsimp only
  rcases pk_ix v1 (n := c) (by omega) with z | z | ⟨t, ht, rfl⟩
  · exact br_t z (br_t rfl (br_t z ⟨rfl, ad_mk (k := k + 2) hR⟩))
  · by_cases z0 : v1 < 0
    · exact br_t z0 (br_t rfl (br_t z0 ⟨rfl, ad_mk (k := k + 2) hR⟩))
    · exact br_f z0 (br_t z (br_t rfl (br_f z0 (br_f (Int32.not_lt.mpr z) ⟨rfl, ad_mk (k := k + 2) hR⟩))))
  · have hin : vp_in (nI t) 64 := vp_in_nI (by omega) (by omega)
    refine br_f (nI_pos (by omega)) (br_f (nI_ge ht (by omega)) (br_f (by decide) ⟨hin, br_f (nI_pos (by omega)) (br_t (nI_lt ht (by omega)) ⟨hin, ?_, ad_mk (k := k + 2) hR⟩)⟩))
    rw [nI_clamp (by omega)]
    exact (h10 t ht).symm
theorem i_vc_nodeAmbiguous {k : Nat} {u : SX} {v : SY} (I : i_Rel k u v) (hk : k + 2 ≤ 1026) (v1 : Int32) : wpX_nodeAmbiguous (fun r => wpY_nodeAmbiguous (fun r' => r' = r ∧ i_Rel (k + 2) u v) v v1) u v1 := by
  obtain ⟨g, tk, n, lim, tl, c, f_compiled, f_resultError, hc, yD, yL, a_altRule, a_altNumber, a_altStart, a_altEnd, a_symbols, a_input, a_firstRules, a_spans, a_begun, a_symbolOf, a_altOf, a_parentOf, a_startOf, a_endOf, a_ambiguousOf, a_nextSymbol, a_stopSymbol, a_goalsOf, aL, yE, en, pr, fl, bg, re, yN, yA, yX, rfl, rfl, hR⟩ := I
  have h6 := hR.2.2.2.2.1
  have h12 := hR.2.2.2.2.2.2.2.2.2.2
  unfold wpX_nodeAmbiguous
  dsimp only
  rcases pk_ix v1 (n := c) (by omega) with z | z | ⟨t, ht, rfl⟩
  · exact br_t z (br_t rfl (br_t z ⟨rfl, ad_mk (k := k + 2) hR⟩))
  · by_cases z0 : v1 < 0
    · exact br_t z0 (br_t rfl (br_t z0 ⟨rfl, ad_mk (k := k + 2) hR⟩))
    · exact br_f z0 (br_t z (br_t rfl (br_f z0 (br_t z ⟨rfl, ad_mk (k := k + 2) hR⟩))))
  · have hin : vp_in (nI t) 64 := vp_in_nI (by omega) (by omega)
    refine br_f (nI_pos (by omega)) (br_f (nI_ge ht (by omega)) (br_f (by decide) ⟨hin, ?_⟩))
    rcases h12 (nI t).toNatClampNeg with y | ⟨y1, y2⟩
    · refine br_t y (br_f (nI_pos (by omega)) (br_f (nI_ge ht (by omega)) ⟨hin, br_c (fun _ => ⟨rfl, ad_mk (k := k + 2) hR⟩) (fun _ => ⟨hin, br_t y ⟨rfl, ad_mk (k := k + 2) hR⟩⟩)⟩))
    · have y0 : ¬ a_ambiguousOf (nI t).toNatClampNeg = 0 := by rw [y1]; decide
      exact br_f y0 (br_f (nI_pos (by omega)) (br_f (nI_ge ht (by omega)) ⟨hin, br_f (Int32.not_le.mpr y2) ⟨hin, br_f y0 ⟨rfl, ad_mk (k := k + 2) hR⟩⟩⟩))
