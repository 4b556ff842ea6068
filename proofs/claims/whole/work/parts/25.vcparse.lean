theorem i_vc_parse {k : Nat} {u : SX} {v : SY} (I : i_Rel k u v) (hk : k + 2 ≤ 1026) : wpX_parse (fun r u' => wpY_parse (fun r' v' => r' = r ∧ i_Rel (k + 2) u' v') v) u := by
  obtain ⟨g, tk, n, lim, tl, c, f_compiled, f_resultError, hc, yD, yL, a_altRule, a_altNumber, a_altStart, a_altEnd, a_symbols, a_input, a_firstRules, a_spans, a_begun, a_symbolOf, a_altOf, a_parentOf, a_startOf, a_endOf, a_ambiguousOf, a_nextSymbol, a_stopSymbol, a_goalsOf, aL, yE, en, pr, fl, bg, re, yN, yA, yX, rfl, rfl, hR⟩ := I
  obtain ⟨h1, h2, h4, h5, h6, h7, h8, h9, h10, h11, h12⟩ := hR
  rcases h9 with h9 | ⟨h9, hRK⟩
  · subst h9
    exact br_t rfl (br_t rfl ⟨rfl, ad_mk (k := k + 2) ⟨h1, h2, h4, h5, h6, h7, h8, Or.inl rfl, h10, h11, h12⟩⟩)
  · subst h9
    have hn := h4.1
    refine br_f (by decide) (ax_fs h1 h4 hRK fun sp hsp => ?_)
    have hE : ∀ ye, ad_ex g tk n (ad_cY tk n ye) → (bt (ye 0) n = true ↔ bt (sp 208) n = true) := fun ye hye => (hye 16 0 n (by omega) (by omega)).trans (hsp 16 0 n (by omega) (by omega)).symm
    refine nm_e (ax_ct (by omega) (fun hb => br_f (by decide) ?_) (fun hb => br_t rfl ?_))
    · have hL : ad_LR g tk n 0 0 n := by
        rcases (hsp 16 0 n (by omega) (by omega)).mp hb with z | z
        · exact absurd z.1 (by omega)
        · exact z.2.2
      obtain ⟨B, B', c', sym', alt', par', sta', amb', en', yE', hout, ham, hpr, hX, hY⟩ := tr_all (f_tokenLimit := nI tl) (f_compiled := 1) (f_resultSize := nI c) (f_resultError := nI n) (a_altNumber := a_altNumber) (a_input := a_input) (a_firstRules := a_firstRules) (a_spans := sp) (a_begun := a_begun) (a_nextSymbol := a_nextSymbol) (a_stopSymbol := a_stopSymbol) (a_goalsOf := a_goalsOf) (y_f_tokenLimit := nI tl) (y_f_hasCurrent := hc) (y_f_compiled := 1) (y_f_count := nI c) (y_f_errPos := f_resultError) (y_f_depth := yD) (y_f_lastViable := yL) (y_a_pre := pr) (y_a_flag := fl) (y_a_beg := bg) (y_a_reach := re) (y_a_stNode := yN) (y_a_stAlt := yA) (y_a_stNext := yX) (lim := lim) h1 h2 h4 hsp h5 (by omega) (by omega) hL a_symbolOf a_altOf a_parentOf a_startOf a_ambiguousOf a_endOf yE h12
      refine hX _ fun nx' sto' go' => ?_
      rcases hout with ⟨rfl, rfl, hc1, hc2, hee⟩ | ⟨rfl, rfl⟩
      · refine br_f (by decide) (br_f (by decide) (ay_ce h2 h4 fun ye hye => ek_if (ad_has (by omega)) (fun hz => absurd ((hE ye hye).mpr hb) hz) (fun _ => ?_)))
        refine hY ye hye _ fun lv' D' yN' yA' yX' => ?_
        exact br_f (by decide) (br_f (by decide) ⟨rfl, ad_mk (k := k + 2) ⟨h1, h2, h4, h5, by omega, h7, h8, Or.inr ⟨rfl, hRK⟩, hee, fun _ => hpr, ham⟩⟩)
      · refine br_t rfl (br_f (by decide) (ay_ce h2 h4 fun ye hye => ek_if (ad_has (by omega)) (fun hz => absurd ((hE ye hye).mpr hb) hz) (fun _ => ?_)))
        refine hY ye hye _ fun lv' D' yN' yA' yX' => ?_
        exact br_f (by decide) (br_t rfl ⟨rfl, ad_mk (k := k + 2) (c := 0) ⟨h1, h2, h4, h5, by omega, h7, h8, Or.inr ⟨rfl, hRK⟩, fun i hi => absurd hi (Nat.not_lt_zero i), fun z => absurd z (Nat.lt_irrefl 0), ham⟩⟩)
    · refine ax_vp h1 hn hsp fun B R hRq => ?_
      refine br_f (by decide) (ay_ce h2 h4 fun ye hye => ek_if (ad_has (by omega)) (fun _ => ?_) (fun hz => absurd (fun y => hb ((hE ye hye).mp y)) hz))
      refine br_t rfl (ay_cp h2 h4 hye fun pr' hpr => ay_mx hn ?_)
      have e : ad_mx (fun i => bt (pr' 0) i) (n + 1) = ad_mx (fun i => bt R i) (n + 1) := ad_mx_eq (fun i hi => (hpr i).trans (hRq i hi).symm) (n + 1)
      rw [e]
      exact ⟨rfl, ad_mk (k := k + 2) (c := 0) ⟨h1, h2, h4, h5, by omega, h7, h8, Or.inr ⟨rfl, hRK⟩, fun i hi => absurd hi (Nat.not_lt_zero i), fun z => absurd z (Nat.lt_irrefl 0), h12⟩⟩
