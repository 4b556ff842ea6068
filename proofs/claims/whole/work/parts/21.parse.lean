/-! ===== both trees from the root ===== -/
section
variable {f_tokenLimit f_nodeLimit f_altCount f_symbolCount f_compiled f_inputLength f_resultSize f_resultError : Int32} {a_altRule a_altNumber a_altStart a_altEnd a_symbols a_input a_firstRules a_spans a_begun a_symbolOf a_altOf a_parentOf a_startOf a_endOf a_ambiguousOf a_nextSymbol a_stopSymbol a_goalsOf : Nat → Int32}
variable {y_f_tokenLimit y_f_nodeLimit y_f_altCount y_f_symCount y_f_hasCurrent y_f_compiled y_f_n y_f_count y_f_errPos y_f_depth y_f_lastViable : Int32} {y_a_altRule y_a_altStart y_a_altLen y_a_sym y_a_tok y_a_nSym y_a_nAlt y_a_nPar y_a_nStart y_a_nEnd y_a_nAmb y_a_ends y_a_pre y_a_flag y_a_beg y_a_reach y_a_stNode y_a_stAlt y_a_stNext : Nat → Int32}
variable {g : ad_G} {tk : Nat → Nat} {n : Nat}
theorem tr_all {lim : Nat} (h : ad_hX g a_altRule a_altStart a_altEnd a_symbols) (hy : ad_hY g y_a_altRule y_a_altStart y_a_altLen y_a_sym) (hi : ad_hI tk n y_a_tok) (hx : ad_ex g tk n (ad_cX a_spans)) (hnum : ∀ b, b < ad_C g → a_altNumber b = nI (1 + ad_cn (fun i => decide (ad_ru g i = ad_ru g b)) b)) (hl1 : 1 ≤ lim) (hl2 : lim ≤ 64) (hL : ad_LR g tk n 0 0 n) (sym alt par sta amb en yE : Nat → Int32) (hamb : ∀ i, amb i = 0 ∨ (amb i = 1 ∧ 0 < alt i)) :
    ∃ (B B' : Int32) (c' : Nat) (sym' alt' par' sta' amb' en' yE' : Nat → Int32),
      ((B = 1 ∧ B' = 0 ∧ 1 ≤ c' ∧ c' ≤ 64 ∧ (∀ i, i < c' → en' i = yE' i)) ∨ (B = 0 ∧ B' = 1)) ∧ (∀ i, amb' i = 0 ∨ (amb' i = 1 ∧ 0 < alt' i)) ∧ par' 0 = -1 ∧
      (∀ (post : Int32 → SX → Prop), (∀ nx' sto' go', post B (f_tokenLimit, (nI lim), (nI (ad_C g)), (nI (ad_M g)), f_compiled, (nI n), (nI c'), f_resultError, a_altRule, a_altNumber, a_altStart, a_altEnd, a_symbols, a_input, a_firstRules, a_spans, a_begun, sym', alt', par', sta', en', amb', nx', sto', go')) → wpX_growTree post (f_tokenLimit, (nI lim), (nI (ad_C g)), (nI (ad_M g)), f_compiled, (nI n), f_resultSize, f_resultError, a_altRule, a_altNumber, a_altStart, a_altEnd, a_symbols, a_input, a_firstRules, a_spans, a_begun, sym, alt, par, sta, en, amb, a_nextSymbol, a_stopSymbol, a_goalsOf)) ∧
      (∀ (ye : Nat → Int32), ad_ex g tk n (ad_cY tk n ye) → ∀ (post : Int32 → SY → Prop), (∀ lv' D' yN' yA' yX', post B' (y_f_tokenLimit, (nI lim), (nI (ad_C g)), (nI (ad_M g)), y_f_hasCurrent, y_f_compiled, (nI n), (nI c'), y_f_errPos, D', lv', y_a_altRule, y_a_altStart, y_a_altLen, y_a_sym, y_a_tok, sym', alt', par', sta', yE', amb', ye, y_a_pre, y_a_flag, y_a_beg, y_a_reach, yN', yA', yX')) → wpY_walk post (y_f_tokenLimit, (nI lim), (nI (ad_C g)), (nI (ad_M g)), y_f_hasCurrent, y_f_compiled, (nI n), y_f_count, y_f_errPos, y_f_depth, y_f_lastViable, y_a_altRule, y_a_altStart, y_a_altLen, y_a_sym, y_a_tok, sym, alt, par, sta, yE, amb, ye, y_a_pre, y_a_flag, y_a_beg, y_a_reach, y_a_stNode, y_a_stAlt, y_a_stNext)) := by
  have hn := hi.1
  have w := h.1
  have hC16 := w.1
  obtain ⟨a0, z1, z2, z3, z4⟩ := ad_LR_i hL
  generalize hGe : (1 : Int32) <<< (nI n &&& 31) = G
  have hG : ∀ q, bt G q = true ↔ q = n := fun q => by rw [← hGe]; exact ad_bit (by omega) q
  have hvv : ∀ ye, ad_ex g tk n (ad_cY tk n ye) → ∀ a, a < ad_C g → ad_vX g n (ad_cX a_spans) G 0 0 a = ad_vY g n (ad_cY tk n ye) (fun _ => 0) (fun _ => 0) 0 0 0 a := by
    intro ye hye a ha
    refine Bool.eq_iff_iff.mpr ?_
    rw [ad_vX_iff w hx ha (by omega), ad_vY_iff w hye (fun i hi => absurd hi (Nat.not_lt_zero i)) ha (by omega)]
    exact ⟨fun ⟨z1, q, z2, z3⟩ => ⟨z1, q, z2, (hG q).mp z3⟩, fun ⟨z1, q, z2, z3⟩ => ⟨z1, q, z2, (hG q).mpr z3⟩⟩
  obtain ⟨b, hb, hvb, hlb⟩ := ad_least (ad_vX g n (ad_cX a_spans) G 0 0) (ad_C g) ⟨a0, z1, (ad_vX_iff w hx z1 (by omega)).mpr ⟨z2, n, z4, (hG n).mpr rfl⟩⟩
  have hcb := ad_cn_le (fun i => decide (ad_ru g i = ad_ru g b)) b
  obtain ⟨_, q1, y2, y3⟩ := (ad_vX_iff w hx hb (by omega)).mp hvb
  have hq1 : q1 = n := (hG q1).mp y3
  subst hq1
  have hT : ad_TI g tk q1 lim 1 1 0 0 (fun _ => 0) (fun _ => b) (fun _ => 0) (upd a_nextSymbol 0 (nI (ad_st g b))) (upd a_stopSymbol 0 (nI (ad_st g b + ad_ln g b))) (upd a_goalsOf 0 G) (upd par 0 (-1)) (upd alt 0 (nI (1 + ad_cn (fun i => decide (ad_ru g i = ad_ru g b)) b))) (upd amb 0 (if ad_cn (ad_vX g q1 (ad_cX a_spans) G 0 0) (ad_C g) ≤ 1 then 0 else 1)) en (upd y_a_stNode 0 0) (upd y_a_stAlt 0 (nI b)) (upd y_a_stNext 0 0) (upd yE 0 0) := by
    refine ⟨by omega, hl1, hl2, by omega, by omega, by omega, ⟨q1, y2, rfl⟩, ?_, ?_, ?_⟩
    · intro f hf
      have e : f = 0 := by omega
      subst e
      exact ⟨by omega, hb, Nat.zero_le _, pk_us, pk_us, pk_us, pk_us, pk_us, pk_us, fun q => by rw [pk_us]; exact hG q, fun f' hf' => absurd hf' (Nat.not_lt_zero f')⟩
    · intro i hi' hne
      exact absurd (show (0 : Nat) = i by omega) (hne 0 (by omega))
    · intro i
      by_cases e : i = 0
      · subst e
        rw [pk_us, pk_us]
        split
        · exact Or.inl rfl
        · exact Or.inr ⟨rfl, nI_lt (a := 0) (by omega) (by omega)⟩
      · rw [pk_un e, pk_un e]; exact hamb i
  obtain ⟨B, B', c', sym', alt', par', sta', amb', en', yE', hout, ham, hpr, hX, hY⟩ := tr_lock (f_tokenLimit := f_tokenLimit) (f_compiled := f_compiled) (f_resultError := f_resultError) (a_input := a_input) (a_firstRules := a_firstRules) (a_begun := a_begun) (y_f_tokenLimit := y_f_tokenLimit) (y_f_hasCurrent := y_f_hasCurrent) (y_f_compiled := y_f_compiled) (y_f_errPos := y_f_errPos) (y_a_pre := y_a_pre) (y_a_flag := y_a_flag) (y_a_beg := y_a_beg) (y_a_reach := y_a_reach) h hy hi hx hnum 128 1 1 0 0 _ _ _ _ _ _ (upd sym 0 0) _ _ (upd sta 0 0) _ _ _ _ _ _ (by omega) hT
  refine ⟨B, B', c', sym', alt', par', sta', amb', en', yE', hout, ham, hpr pk_us, ?_, ?_⟩
  · intro post hp
    have hX := hX post 129 (by omega) hp
    rw [← hnum b hb] at hX
    unfold wpX_growTree
    dsimp only
    refine ax_an (c := 0) (by omega) ?_
    dsimp only
    rw [hGe]
    refine ax_ch (c := 0) (r := 0) (p := 0) h hn (by omega) (by omega) pk_us pk_us hb hvb hlb ?_
    rw [ad_uu, ad_uu]
    exact ⟨129, hX⟩
  · intro ye hye post hp
    have hvbY : ad_vY g q1 (ad_cY tk q1 ye) (fun _ => 0) (fun _ => 0) 0 0 0 b = true := by rw [← hvv ye hye b hb]; exact hvb
    have hlbY : ∀ b', b' < b → ¬ ad_vY g q1 (ad_cY tk q1 ye) (fun _ => 0) (fun _ => 0) 0 0 0 b' = true := fun b' hb' => by rw [← hvv ye hye b' (by omega)]; exact hlb b' hb'
    have hcn : ad_cn (ad_vX g q1 (ad_cX a_spans) G 0 0) (ad_C g) = ad_cn (ad_vY g q1 (ad_cY tk q1 ye) (fun _ => 0) (fun _ => 0) 0 0 0) (ad_C g) := ad_cn_eq _ (hvv ye hye)
    have hcl := ad_cn_le (ad_vY g q1 (ad_cY tk q1 ye) (fun _ => 0) (fun _ => 0) 0 0 0) (ad_C g)
    have hY := hY ye (nI (ad_cn (ad_vY g q1 (ad_cY tk q1 ye) (fun _ => 0) (fun _ => 0) 0 0 0) (ad_C g))) hye post 129 (by omega) hp
    rw [hcn] at hY
    have hpl : ∀ am : Int32, vp_nar .boolean am = am → am = (if ad_cn (ad_vY g q1 (ad_cY tk q1 ye) (fun _ => 0) (fun _ => 0) 0 0 0) (ad_C g) ≤ 1 then 0 else 1) → wY_walk_49 post 0 (nI b) am 0 (-1) (nI (1 + ad_cn (fun i => decide (ad_ru g i = ad_ru g b)) b)) 0 y_f_tokenLimit (nI lim) (nI (ad_C g)) (nI (ad_M g)) y_f_hasCurrent y_f_compiled (nI q1) 0 y_f_errPos 0 (nI (ad_cn (ad_vY g q1 (ad_cY tk q1 ye) (fun _ => 0) (fun _ => 0) 0 0 0) (ad_C g))) y_a_altRule y_a_altStart y_a_altLen y_a_sym y_a_tok sym alt par sta yE amb ye y_a_pre y_a_flag y_a_beg y_a_reach y_a_stNode y_a_stAlt y_a_stNext := by
      intro am ham eam
      refine ay_pl (c := 0) (by omega) ham ?_
      rw [eam]
      exact nm_e (nm_e (nm_e ⟨129, hY⟩))
    refine ay_ch (f_lastViable := y_f_lastViable) (d := 0) (r := 0) (p := 0) (sa := fun _ => 0) (sn := fun _ => 0) hy hi (by omega) (fun f hf => absurd hf (Nat.not_lt_zero f)) (by omega) hb hvbY hlbY ?_
    refine br_t (nI_pos' (by omega)) (ay_an hy hb ?_)
    refine pk_lt (ad_cn (ad_vY g q1 (ad_cY tk q1 ye) (fun _ => 0) (fun _ => 0) 0 0 0) (ad_C g)) 2 (fun z => hpl 0 ad_nb0 ?_) (fun z => hpl 1 ad_nb1 ?_)
    · rw [if_pos (by omega)]
    · rw [if_neg (by omega)]
end
