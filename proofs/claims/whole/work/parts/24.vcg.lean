theorem i_vc_beginAlt {k : Nat} {u : SX} {v : SY} (I : i_Rel k u v) (hk : k + 2 ≤ 1026) (v1 : Int32) : wpX_beginAlt (fun r u' => wpY_beginAlt (fun r' v' => r' = r ∧ i_Rel (k + 2) u' v') v v1) u v1 := by
  obtain ⟨g, tk, n, lim, tl, c, f_compiled, f_resultError, hc, yD, yL, a_altRule, a_altNumber, a_altStart, a_altEnd, a_symbols, a_input, a_firstRules, a_spans, a_begun, a_symbolOf, a_altOf, a_parentOf, a_startOf, a_endOf, a_ambiguousOf, a_nextSymbol, a_stopSymbol, a_goalsOf, aL, yE, en, pr, fl, bg, re, yN, yA, yX, rfl, rfl, hR⟩ := I
  have hX := hR.1
  have hC := hX.1.1
  rcases pk_ix v1 (n := 8) (by omega) with z | z | ⟨r, hr, rfl⟩
  · exact br_t z (br_t z ⟨rfl, ad_mk (k := k + 2) hR⟩)
  · obtain ⟨z1, z2, z3⟩ := ad_big (m := 7) (by omega) z
    exact br_f z1 (br_t z (br_f z1 (br_f z2 ⟨rfl, ad_mk (k := k + 2) hR⟩)))
  · refine br_f (nI_pos (by omega)) (br_f (nI_ge (b := 8) hr (by decide)) (pk_lt (ad_C g) 16 (fun z => ?_) (fun z => ?_)))
    · have hin : vp_in (nI (ad_C g)) 16 := vp_in_nI z (by omega)
      have ec : (nI (ad_C g)).toNatClampNeg = ad_C g := nI_clamp (by omega)
      refine ax_ca hX hr ?_
      refine ⟨hin, nm_r (e' := upd a_altNumber (ad_C g) (nI (1 + ad_cn (fun i => decide (ad_ru g i = r)) (ad_C g)))) (by rw [ec, ← nI_add]; rfl) ⟨hin, nm_r (e' := upd a_altRule (ad_C g) (nI r)) (by rw [ec]) ⟨hin, nm_r (e' := upd a_altStart (ad_C g) (nI (ad_M g))) (by rw [ec]) ⟨hin, nm_r (e' := upd a_altEnd (ad_C g) (nI (ad_M g))) (by rw [ec]) (nm_r (nI_1 (ad_C g)) ?_)⟩⟩⟩⟩
      refine br_f (nI_pos (by omega)) (br_t (nI_le (b := 7) (Nat.le_of_lt_succ hr) (by decide)) (br_t (nI_lt (b := 16) z (by decide)) ⟨hin, nm_r (e' := upd a_altRule (ad_C g) (nI r)) (by rw [ec]) ⟨hin, nm_r (e' := upd a_altStart (ad_C g) (nI (ad_M g))) (by rw [ec]) ⟨hin, nm_r (e' := upd aL (ad_C g) 0) (by rw [ec]) (nm_r (nI_1 (ad_C g)) ⟨rfl, ?_⟩)⟩⟩⟩))
      exact ad_mk (k := k + 2) (g := (ad_C g + 1, ad_M g, ad_set (ad_ru g) (ad_C g) r, ad_set (ad_st g) (ad_C g) (ad_M g), ad_set (ad_ln g) (ad_C g) 0, ad_sy g)) (ad_R_begin hR z hr rfl rfl rfl rfl rfl rfl)
    · exact br_f (nI_pos (by omega)) (br_t (nI_le (b := 7) (Nat.le_of_lt_succ hr) (by decide)) (br_f (nI_nlt (b := 16) z (by omega)) ⟨rfl, ad_mk (k := k + 2) hR⟩))

section
variable {f_tokenLimit f_nodeLimit f_altCount f_symbolCount f_compiled f_inputLength f_resultSize f_resultError : Int32} {a_altRule a_altNumber a_altStart a_altEnd a_symbols a_input a_firstRules a_spans a_begun a_symbolOf a_altOf a_parentOf a_startOf a_endOf a_ambiguousOf a_nextSymbol a_stopSymbol a_goalsOf : Nat → Int32}
variable {g : ad_G} {n : Nat}
theorem ax_ap {post : Int32 → SX → Prop} {s : Nat} (w : ad_wf g) (h0 : (ad_C g = 0 ∨ 48 ≤ ad_M g) → post 0 (f_tokenLimit, f_nodeLimit, (nI (ad_C g)), (nI (ad_M g)), f_compiled, (nI n), f_resultSize, f_resultError, a_altRule, a_altNumber, a_altStart, a_altEnd, a_symbols, a_input, a_firstRules, a_spans, a_begun, a_symbolOf, a_altOf, a_parentOf, a_startOf, a_endOf, a_ambiguousOf, a_nextSymbol, a_stopSymbol, a_goalsOf)) (h1 : 0 < ad_C g → ad_M g < 48 → post 1 (f_tokenLimit, f_nodeLimit, (nI (ad_C g)), (nI (ad_M g + 1)), 0, (nI n), f_resultSize, f_resultError, a_altRule, a_altNumber, a_altStart, (upd a_altEnd (ad_C g - 1) (nI (ad_M g + 1))), (upd a_symbols (ad_M g) (nI s)), a_input, a_firstRules, a_spans, a_begun, a_symbolOf, a_altOf, a_parentOf, a_startOf, a_endOf, a_ambiguousOf, a_nextSymbol, a_stopSymbol, a_goalsOf)) : wpX_appendSymbol post (f_tokenLimit, f_nodeLimit, (nI (ad_C g)), (nI (ad_M g)), f_compiled, (nI n), f_resultSize, f_resultError, a_altRule, a_altNumber, a_altStart, a_altEnd, a_symbols, a_input, a_firstRules, a_spans, a_begun, a_symbolOf, a_altOf, a_parentOf, a_startOf, a_endOf, a_ambiguousOf, a_nextSymbol, a_stopSymbol, a_goalsOf) (nI s) := by
  have hC := w.1
  have hM := w.2.1
  refine pk_eq (ad_C g) 0 (fun z => h0 (Or.inl z)) (fun z => pk_lt (ad_M g) 48 (fun y => ?_) (fun y => h0 (Or.inr y)))
  have e1 : nI (ad_C g) - 1 = nI (ad_C g - 1) := pk_sub (b := 1) (by omega)
  refine ⟨vp_in_nI y (by omega), nm_r (e' := upd a_symbols (ad_M g) (nI s)) (by rw [nI_clamp (by omega)]) (nm_r (nI_1 (ad_M g)) ⟨?_, nm_r (e' := upd a_altEnd (ad_C g - 1) (nI (ad_M g + 1))) ?_ (h1 (by omega) y)⟩)⟩
  · rw [e1]
    exact vp_in_nI (by omega) (by omega)
  · rw [e1, nI_clamp (by omega)]
end
theorem i_vc_addTerminal {k : Nat} {u : SX} {v : SY} (I : i_Rel k u v) (hk : k + 2 ≤ 1026) (v1 : Int32) : wpX_addTerminal (fun r u' => wpY_addTerminal (fun r' v' => r' = r ∧ i_Rel (k + 2) u' v') v v1) u v1 := by
  obtain ⟨g, tk, n, lim, tl, c, f_compiled, f_resultError, hc, yD, yL, a_altRule, a_altNumber, a_altStart, a_altEnd, a_symbols, a_input, a_firstRules, a_spans, a_begun, a_symbolOf, a_altOf, a_parentOf, a_startOf, a_endOf, a_ambiguousOf, a_nextSymbol, a_stopSymbol, a_goalsOf, aL, yE, en, pr, fl, bg, re, yN, yA, yX, rfl, rfl, hR⟩ := I
  have hX := hR.1
  have hC := hX.1.1
  have hM := hX.1.2.1
  have h7 := hR.2.2.2.2.2.1
  rcases pk_ix v1 (n := 16) (by omega) with z | z | ⟨s, hs, rfl⟩
  · exact br_t z (br_c (fun _ => ⟨rfl, ad_mk (k := k + 2) hR⟩) (fun _ => br_t z ⟨rfl, ad_mk (k := k + 2) hR⟩))
  · obtain ⟨z1, z2, z3⟩ := ad_big (m := 15) (by omega) z
    exact br_f z1 (br_t z (br_c (fun _ => ⟨rfl, ad_mk (k := k + 2) hR⟩) (fun _ => br_f z1 (br_t z3 ⟨rfl, ad_mk (k := k + 2) hR⟩))))
  · refine br_f (nI_pos (by omega)) (br_f (nI_ge (b := 16) hs (by decide)) (ax_ap hX.1 (fun z => ?_) (fun z y => ?_)))
    · refine br_t rfl ?_
      by_cases c0 : ad_C g = 0
      · rw [if_pos c0] at h7
        exact br_t h7 ⟨rfl, ad_mk (k := k + 2) hR⟩
      · have h71 : ¬ hc = 0 := by rw [h7, if_neg c0]; decide
        exact br_f h71 (br_f (nI_pos (by omega)) (br_f (nI_nlt (a := 15) (Nat.le_of_lt_succ hs) (by decide)) (br_f (nI_nlt (b := 48) (z.resolve_left c0) (by omega)) ⟨rfl, ad_mk (k := k + 2) hR⟩)))
    · have h71 : ¬ hc = 0 := by rw [h7, if_neg (by omega)]; decide
      have e1 : nI (ad_C g) - 1 = nI (ad_C g - 1) := pk_sub (b := 1) (by omega)
      have hin : vp_in (nI (ad_C g) - 1) 16 := by rw [e1]; exact vp_in_nI (by omega) (by omega)
      have eL := (hR.2.1.2.1 (ad_C g - 1) (by omega)).2.2
      refine br_f (by decide) (br_f h71 (br_f (nI_pos (by omega)) (br_f (nI_nlt (a := 15) (Nat.le_of_lt_succ hs) (by decide)) (br_t (nI_lt (b := 48) y (by decide)) ⟨vp_in_nI y (by omega), nm_r (e' := upd a_symbols (ad_M g) (nI s)) (by rw [nI_clamp (by omega)]) (nm_r (nI_1 (ad_M g)) ⟨hin, hin, nm_r (e' := upd aL (ad_C g - 1) (nI (ad_ln g (ad_C g - 1) + 1))) ?_ ⟨rfl, ?_⟩⟩)⟩))))
      · rw [e1, nI_clamp (by omega), eL, nI_1]
      · exact ad_mk (k := k + 2) (g := (ad_C g, ad_M g + 1, ad_ru g, ad_st g, ad_set (ad_ln g) (ad_C g - 1) (ad_ln g (ad_C g - 1) + 1), ad_set (ad_sy g) (ad_M g) s)) (ad_R_app hR z y (by omega) rfl rfl rfl rfl rfl rfl)
theorem i_vc_addRule {k : Nat} {u : SX} {v : SY} (I : i_Rel k u v) (hk : k + 2 ≤ 1026) (v1 : Int32) : wpX_addRule (fun r u' => wpY_addRule (fun r' v' => r' = r ∧ i_Rel (k + 2) u' v') v v1) u v1 := by
  obtain ⟨g, tk, n, lim, tl, c, f_compiled, f_resultError, hc, yD, yL, a_altRule, a_altNumber, a_altStart, a_altEnd, a_symbols, a_input, a_firstRules, a_spans, a_begun, a_symbolOf, a_altOf, a_parentOf, a_startOf, a_endOf, a_ambiguousOf, a_nextSymbol, a_stopSymbol, a_goalsOf, aL, yE, en, pr, fl, bg, re, yN, yA, yX, rfl, rfl, hR⟩ := I
  have hX := hR.1
  have hC := hX.1.1
  have hM := hX.1.2.1
  have h7 := hR.2.2.2.2.2.1
  rcases pk_ix v1 (n := 8) (by omega) with z | z | ⟨s, hs, rfl⟩
  · exact br_t z (br_c (fun _ => ⟨rfl, ad_mk (k := k + 2) hR⟩) (fun _ => br_t z ⟨rfl, ad_mk (k := k + 2) hR⟩))
  · obtain ⟨z1, z2, z3⟩ := ad_big (m := 7) (by omega) z
    exact br_f z1 (br_t z (br_c (fun _ => ⟨rfl, ad_mk (k := k + 2) hR⟩) (fun _ => br_f z1 (br_t z3 ⟨rfl, ad_mk (k := k + 2) hR⟩))))
  · have e16 : 16 + nI s = nI (16 + s) := nI_add 16 s
    refine br_f (nI_pos (by omega)) (br_f (nI_ge (b := 8) hs (by decide)) ?_)
    rw [e16]
    refine ax_ap hX.1 (fun z => ?_) (fun z y => ?_)
    · refine br_t rfl ?_
      by_cases c0 : ad_C g = 0
      · rw [if_pos c0] at h7
        exact br_t h7 ⟨rfl, ad_mk (k := k + 2) hR⟩
      · have h71 : ¬ hc = 0 := by rw [h7, if_neg c0]; decide
        exact br_f h71 (br_f (nI_pos (by omega)) (br_f (nI_nlt (a := 7) (Nat.le_of_lt_succ hs) (by decide)) (br_f (nI_nlt (b := 48) (z.resolve_left c0) (by omega)) ⟨rfl, ad_mk (k := k + 2) hR⟩)))
    · have h71 : ¬ hc = 0 := by rw [h7, if_neg (by omega)]; decide
      have e1 : nI (ad_C g) - 1 = nI (ad_C g - 1) := pk_sub (b := 1) (by omega)
      have hin : vp_in (nI (ad_C g) - 1) 16 := by rw [e1]; exact vp_in_nI (by omega) (by omega)
      have eL := (hR.2.1.2.1 (ad_C g - 1) (by omega)).2.2
      refine br_f (by decide) (br_f h71 (br_f (nI_pos (by omega)) (br_f (nI_nlt (a := 7) (Nat.le_of_lt_succ hs) (by decide)) (br_t (nI_lt (b := 48) y (by decide)) ⟨vp_in_nI y (by omega), nm_r (e' := upd a_symbols (ad_M g) (nI (16 + s))) (by rw [nI_clamp (by omega), e16]) (nm_r (nI_1 (ad_M g)) ⟨hin, hin, nm_r (e' := upd aL (ad_C g - 1) (nI (ad_ln g (ad_C g - 1) + 1))) ?_ ⟨rfl, ?_⟩⟩)⟩))))
      · rw [e1, nI_clamp (by omega), eL, nI_1]
      · exact ad_mk (k := k + 2) (g := (ad_C g, ad_M g + 1, ad_ru g, ad_st g, ad_set (ad_ln g) (ad_C g - 1) (ad_ln g (ad_C g - 1) + 1), ad_set (ad_sy g) (ad_M g) (16 + s))) (ad_R_app hR z y (by omega) rfl rfl rfl rfl rfl rfl)
theorem i_vc_compile {k : Nat} {u : SX} {v : SY} (I : i_Rel k u v) (hk : k + 2 ≤ 1026) : wpX_compile (fun r u' => wpY_compile (fun r' v' => r' = r ∧ i_Rel (k + 2) u' v') v) u := by
  obtain ⟨g, tk, n, lim, tl, c, f_compiled, f_resultError, hc, yD, yL, a_altRule, a_altNumber, a_altStart, a_altEnd, a_symbols, a_input, a_firstRules, a_spans, a_begun, a_symbolOf, a_altOf, a_parentOf, a_startOf, a_endOf, a_ambiguousOf, a_nextSymbol, a_stopSymbol, a_goalsOf, aL, yE, en, pr, fl, bg, re, yN, yA, yX, rfl, rfl, hR⟩ := I
  obtain ⟨h1, h2, h4, h5, h6, h7, h8, h9, h10, h11, h12⟩ := hR
  have hR0 : ∀ cp : Int32, (cp = 0 ∨ (cp = 1 ∧ ad_RK g)) → ad_R g tk n lim tl c cp hc a_altRule a_altNumber a_altStart a_altEnd aL a_symbols a_input a_altOf a_parentOf a_ambiguousOf a_endOf yE := fun cp hcp => ⟨h1, h2, h4, h5, h6, h7, h8, hcp, h10, h11, h12⟩
  have hR := hR0 f_compiled h9
  refine ax_compile h1 (fun x1 => ?_) (fun x1 x2 => ?_) (fun x1 x2 x3 => ?_) (fun f x1 x2 x3 x4 => ?_) (fun f x1 x2 x3 x4 x5 => ?_)
  · exact ay_compile h2 (fun _ => ⟨rfl, ad_mk (k := k + 2) hR⟩) (fun y => absurd y x1) (fun _ y => absurd y x1) (fun _ _ _ y => absurd y x1) (fun _ _ _ y => absurd y x1)
  · exact ay_compile h2 (fun y => absurd x1 y) (fun _ _ => ⟨rfl, ad_mk (k := k + 2) hR⟩) (fun _ _ y => absurd x2 y) (fun _ _ _ _ y => absurd x2 y) (fun _ _ _ _ y => absurd x2 y)
  · exact ay_compile h2 (fun y => absurd x1 y) (fun _ y => absurd y x2) (fun _ _ _ _ => ⟨rfl, ad_mk (k := k + 2) hR⟩) (fun _ _ _ _ _ y => absurd x3 y) (fun _ _ _ _ _ y => absurd x3 y)
  · exact ay_compile h2 (fun y => absurd x1 y) (fun _ y => absurd y x2) (fun _ _ _ y => absurd y x3) (fun _ _ _ _ _ _ _ => ⟨rfl, ad_mk (k := k + 2) hR⟩) (fun _ _ _ _ _ _ y => absurd x4 y)
  · exact ay_compile h2 (fun y => absurd x1 y) (fun _ y => absurd y x2) (fun _ _ _ y => absurd y x3) (fun _ _ _ _ _ _ y => absurd y x4) (fun _ _ _ _ _ _ _ => ⟨rfl, ad_mk (k := k + 2) (hR0 1 (Or.inr ⟨rfl, x5⟩))⟩)
