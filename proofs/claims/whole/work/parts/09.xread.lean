/-! ===== the component: what reads alone ===== -/
theorem ad_13 (s i : Nat) : nI s * 13 + nI i = nI (s * 13 + i) := by
  show nI s * nI 13 + nI i = _
  rw [pk_mul, nI_add]
theorem ad_nb0 : vp_nar .boolean 0 = 0 := by decide
theorem ad_nb1 : vp_nar .boolean 1 = 1 := by decide
theorem ad_16 {s : Nat} (h : 16 ≤ s) : nI s - 16 = nI (s - 16) := pk_sub (b := 16) h
def ad_hX (g : ad_G) (aR aS aE sym : Nat → Int32) : Prop := ad_wf g ∧ (∀ a, a < ad_C g → aR a = nI (ad_ru g a) ∧ aS a = nI (ad_st g a) ∧ aE a = nI (ad_st g a + ad_ln g a)) ∧ ∀ i, i < ad_M g → sym i = nI (ad_sy g i)
def ad_hY (g : ad_G) (aR aS aL sym : Nat → Int32) : Prop := ad_wf g ∧ (∀ a, a < ad_C g → aR a = nI (ad_ru g a) ∧ aS a = nI (ad_st g a) ∧ aL a = nI (ad_ln g a)) ∧ ∀ i, i < ad_M g → sym i = nI (ad_sy g i)
def ad_hI (tk : Nat → Nat) (n : Nat) (inp : Nat → Int32) : Prop := n ≤ 12 ∧ ∀ i, i < n → tk i < 16 ∧ inp i = nI (tk i)
theorem ad_hX_a {g : ad_G} {aR aS aE sym : Nat → Int32} (h : ad_hX g aR aS aE sym) {a : Nat} (ha : a < ad_C g) : aR (nI a).toNatClampNeg = nI (ad_ru g a) ∧ aS (nI a).toNatClampNeg = nI (ad_st g a) ∧ aE (nI a).toNatClampNeg = nI (ad_st g a + ad_ln g a) ∧ vp_in (nI a) 16 ∧ ad_ru g a < 8 ∧ ad_st g a + ad_ln g a ≤ 48 ∧ a < 16 := by
  obtain ⟨w, h1, h2⟩ := h
  have hC := w.1
  have hM := w.2.1
  have h3 := w.2.2.1 a ha
  rw [nI_clamp (by omega)]
  obtain ⟨e1, e2, e3⟩ := h1 a ha
  exact ⟨e1, e2, e3, vp_in_nI (by omega) (by omega), h3.1, by omega, by omega⟩
theorem ad_hX_s {g : ad_G} {aR aS aE sym : Nat → Int32} (h : ad_hX g aR aS aE sym) {i : Nat} (hi : i < ad_M g) : sym (nI i).toNatClampNeg = nI (ad_sy g i) ∧ vp_in (nI i) 48 ∧ ad_sy g i < 24 ∧ i < 48 := by
  obtain ⟨w, h1, h2⟩ := h
  have hM := w.2.1
  rw [nI_clamp (by omega)]
  exact ⟨h2 i hi, vp_in_nI (by omega) (by omega), w.2.2.2 i hi, by omega⟩
theorem ad_hX_k {g : ad_G} {aR aS aE sym : Nat → Int32} (h : ad_hX g aR aS aE sym) {a k : Nat} (ha : a < ad_C g) (hk : k < ad_ln g a) : sym (nI (ad_st g a + k)).toNatClampNeg = nI (ad_sy g (ad_st g a + k)) ∧ vp_in (nI (ad_st g a + k)) 48 ∧ ad_sy g (ad_st g a + k) < 24 ∧ ad_st g a + k < 48 := by
  have := (h.1.2.2.1 a ha).2
  exact ad_hX_s h (by omega)
section
variable {f_tokenLimit f_nodeLimit f_altCount f_symbolCount f_compiled f_inputLength f_resultSize f_resultError : Int32} {a_altRule a_altNumber a_altStart a_altEnd a_symbols a_input a_firstRules a_spans a_begun a_symbolOf a_altOf a_parentOf a_startOf a_endOf a_ambiguousOf a_nextSymbol a_stopSymbol a_goalsOf : Nat → Int32}
variable {g : ad_G} {tk : Nat → Nat} {n : Nat} {post : Int32 → Prop}
theorem ax_ct {m : Int32} {i : Nat} (hi : i < 32) (h1 : bt m i = true → post 1) (h0 : ¬ bt m i = true → post 0) : wpX_contains post m (nI i) :=
  ⟨fun z => h0 ((ad_has hi).mp z), fun z => h1 (Classical.byContradiction fun y => z ((ad_has hi).mpr y))⟩
theorem ax_pa {s : Nat} {m : Int32} (hn : n ≤ 12) (hs : s < 24) (hp : post (ad_pa (ad_cX a_spans s) m (n + 1))) : wpX_placesAfter post (f_tokenLimit, f_nodeLimit, (nI (ad_C g)), (nI (ad_M g)), f_compiled, (nI n), f_resultSize, f_resultError, a_altRule, a_altNumber, a_altStart, a_altEnd, a_symbols, a_input, a_firstRules, a_spans, a_begun, a_symbolOf, a_altOf, a_parentOf, a_startOf, a_endOf, a_ambiguousOf, a_nextSymbol, a_stopSymbol, a_goalsOf) (nI s) m := by
  refine pk_loop (fun k i x => wX_placesAfter_5 post (nI s) m f_tokenLimit f_nodeLimit (nI (ad_C g)) (nI (ad_M g)) f_compiled (nI n) f_resultSize f_resultError a_altRule a_altNumber a_altStart a_altEnd a_symbols a_input a_firstRules a_spans a_begun a_symbolOf a_altOf a_parentOf a_startOf a_endOf a_ambiguousOf a_nextSymbol a_stopSymbol a_goalsOf k x (nI i)) (fun i x => x = ad_pa (ad_cX a_spans s) m i) (n + 1) 0 0 (by omega) rfl ?_ ?_
  · intro k x hx
    subst hx
    exact br_t (nI_lt (by omega) (by omega)) hp
  · intro k i x hi hx ih
    subst hx
    have hnext := ih _ rfl
    refine br_f (nI_nlt (by omega) (by omega)) (ax_ct (by omega) (fun hb => ?_) (fun hb => ?_))
    · refine br_f (by decide) ⟨pk_in (s * 13 + i) 312 (by omega) (ad_13 s i), nm_r (e' := ad_pa (ad_cX a_spans s) m (i + 1)) ?_ (nm_r (nI_1 i) hnext)⟩
      rw [ad_13, nI_clamp (by omega)]
      exact (if_pos hb).symm
    · have e : ad_pa (ad_cX a_spans s) m i = ad_pa (ad_cX a_spans s) m (i + 1) := (if_neg hb).symm
      rw [← e] at hnext
      exact br_t rfl (nm_r (nI_1 i) hnext)
theorem ax_ea {a p : Nat} (h : ad_hX g a_altRule a_altStart a_altEnd a_symbols) (hn : n ≤ 12) (ha : a < ad_C g) (hp : post (ad_ae n (ad_cX a_spans) (ad_sy g) (ad_st g a) (ad_ln g a) ((1 : Int32) <<< (nI p &&& 31)))) : wpX_endsOfAlt post (f_tokenLimit, f_nodeLimit, (nI (ad_C g)), (nI (ad_M g)), f_compiled, (nI n), f_resultSize, f_resultError, a_altRule, a_altNumber, a_altStart, a_altEnd, a_symbols, a_input, a_firstRules, a_spans, a_begun, a_symbolOf, a_altOf, a_parentOf, a_startOf, a_endOf, a_ambiguousOf, a_nextSymbol, a_stopSymbol, a_goalsOf) (nI a) (nI p) := by
  obtain ⟨e1, e2, e3, hin, h8, h48, h16⟩ := ad_hX_a h ha
  refine nm_e ⟨hin, nm_r e2 ?_⟩
  refine pk_loop (fun k d x => wX_endsOfAlt_12 post (nI a) f_tokenLimit f_nodeLimit (nI (ad_C g)) (nI (ad_M g)) f_compiled (nI n) f_resultSize f_resultError a_altRule a_altNumber a_altStart a_altEnd a_symbols a_input a_firstRules a_spans a_begun a_symbolOf a_altOf a_parentOf a_startOf a_endOf a_ambiguousOf a_nextSymbol a_stopSymbol a_goalsOf k x (nI (ad_st g a + d))) (fun d x => x = ad_ae n (ad_cX a_spans) (ad_sy g) (ad_st g a) d ((1 : Int32) <<< (nI p &&& 31))) (ad_ln g a) 0 _ (by omega) rfl ?_ ?_
  · intro k x hx
    subst hx
    refine ⟨hin, br_t ?_ hp⟩
    rw [e3]
    exact nI_le (by omega) (by omega)
  · intro k d x hd hx ih
    subst hx
    obtain ⟨s1, s2, s3, s4⟩ := ad_hX_k h ha hd
    refine ⟨hin, br_f ?_ ⟨s2, ?_⟩⟩
    · rw [e3]
      exact nI_ge (by omega) (by omega)
    · rw [s1]
      exact ax_pa hn s3 (nm_r (nI_1 _) (ih _ rfl))
theorem ax_pb {s : Nat} {m : Int32} (hn : n ≤ 12) (hs : s < 24) (hp : post (ad_pb (ad_cX a_spans s) m (n + 1))) : wpX_placesBefore post (f_tokenLimit, f_nodeLimit, (nI (ad_C g)), (nI (ad_M g)), f_compiled, (nI n), f_resultSize, f_resultError, a_altRule, a_altNumber, a_altStart, a_altEnd, a_symbols, a_input, a_firstRules, a_spans, a_begun, a_symbolOf, a_altOf, a_parentOf, a_startOf, a_endOf, a_ambiguousOf, a_nextSymbol, a_stopSymbol, a_goalsOf) (nI s) m := by
  refine pk_loop (fun k i x => wX_placesBefore_5 post (nI s) m f_tokenLimit f_nodeLimit (nI (ad_C g)) (nI (ad_M g)) f_compiled (nI n) f_resultSize f_resultError a_altRule a_altNumber a_altStart a_altEnd a_symbols a_input a_firstRules a_spans a_begun a_symbolOf a_altOf a_parentOf a_startOf a_endOf a_ambiguousOf a_nextSymbol a_stopSymbol a_goalsOf k x (nI i)) (fun i x => x = ad_pb (ad_cX a_spans s) m i) (n + 1) 0 0 (by omega) rfl ?_ ?_
  · intro k x hx
    subst hx
    exact br_t (nI_lt (by omega) (by omega)) hp
  · intro k i x hi hx ih
    subst hx
    have hnext := ih _ rfl
    have ec : a_spans (nI s * 13 + nI i).toNatClampNeg = ad_cX a_spans s i := by
      rw [ad_13, nI_clamp (by omega)]
      rfl
    refine br_f (nI_nlt (by omega) (by omega)) ⟨pk_in (s * 13 + i) 312 (by omega) (ad_13 s i), ?_⟩
    rw [ec]
    by_cases hz : (ad_cX a_spans s i &&& m) = 0
    · have e : ad_pb (ad_cX a_spans s) m i = ad_pb (ad_cX a_spans s) m (i + 1) := (if_pos hz).symm
      rw [← e] at hnext
      exact br_t hz (nm_r (nI_1 i) hnext)
    · exact br_f hz (nm_r (e' := ad_pb (ad_cX a_spans s) m (i + 1)) (if_neg hz).symm (nm_r (nI_1 i) hnext))
theorem ad_m1s (x : Int32) : x + (-1) = x - 1 := (Int32.sub_eq_add_neg x 1).symm
theorem ax_gc {c nx sto : Nat} {G : Int32} (h : ad_hX g a_altRule a_altStart a_altEnd a_symbols) (hn : n ≤ 12) (hc : c < 64) (e1 : a_nextSymbol c = nI nx) (e2 : a_stopSymbol c = nI sto) (e3 : a_goalsOf c = G) (hl : nx ≤ sto) (hM : sto ≤ ad_M g) (hp : post (ad_gl n (ad_cX a_spans) (ad_sy g) sto (sto - nx) G)) : wpX_goalsOfChild post (f_tokenLimit, f_nodeLimit, (nI (ad_C g)), (nI (ad_M g)), f_compiled, (nI n), f_resultSize, f_resultError, a_altRule, a_altNumber, a_altStart, a_altEnd, a_symbols, a_input, a_firstRules, a_spans, a_begun, a_symbolOf, a_altOf, a_parentOf, a_startOf, a_endOf, a_ambiguousOf, a_nextSymbol, a_stopSymbol, a_goalsOf) (nI c) := by
  have hin : vp_in (nI c) 64 := vp_in_nI hc (by omega)
  have h48 := h.1.2.1
  have ec : (nI c).toNatClampNeg = c := nI_clamp (by omega)
  refine ⟨hin, nm_r (show a_goalsOf (nI c).toNatClampNeg = G by rw [ec]; exact e3) ⟨hin, nm_r (show a_stopSymbol (nI c).toNatClampNeg - 1 = nI sto - 1 by rw [ec, e2]) ?_⟩⟩
  refine pk_loop (fun k d x => wX_goalsOfChild_16 post (nI c) f_tokenLimit f_nodeLimit (nI (ad_C g)) (nI (ad_M g)) f_compiled (nI n) f_resultSize f_resultError a_altRule a_altNumber a_altStart a_altEnd a_symbols a_input a_firstRules a_spans a_begun a_symbolOf a_altOf a_parentOf a_startOf a_endOf a_ambiguousOf a_nextSymbol a_stopSymbol a_goalsOf k x (nI (sto - d) - 1)) (fun d x => x = ad_gl n (ad_cX a_spans) (ad_sy g) sto d G) (sto - nx) 0 _ (by omega) rfl ?_ ?_
  · intro k x hx
    subst hx
    refine ⟨hin, br_t ?_ hp⟩
    rw [ec, e1, show sto - (sto - nx) = nx by omega]
    by_cases z : nx = 0
    · subst z
      decide
    · obtain ⟨m, rfl⟩ : ∃ m, nx = m + 1 := ⟨nx - 1, by omega⟩
      rw [nI_pred]
      exact nI_lt (by omega) (by omega)
  · intro k d x hd hx ih
    subst hx
    have hnext := ih _ rfl
    obtain ⟨m, hm⟩ : ∃ m, sto - d = m + 1 := ⟨sto - d - 1, by omega⟩
    have em : m = sto - (d + 1) := by omega
    have ex : nI (sto - d) - 1 = nI m := by rw [hm, nI_pred]
    obtain ⟨s1, s2, s3, s4⟩ := ad_hX_s h (i := m) (by omega)
    show wX_goalsOfChild_16 post (nI c) f_tokenLimit f_nodeLimit (nI (ad_C g)) (nI (ad_M g)) f_compiled (nI n) f_resultSize f_resultError a_altRule a_altNumber a_altStart a_altEnd a_symbols a_input a_firstRules a_spans a_begun a_symbolOf a_altOf a_parentOf a_startOf a_endOf a_ambiguousOf a_nextSymbol a_stopSymbol a_goalsOf (k + 1) (ad_gl n (ad_cX a_spans) (ad_sy g) sto d G) (nI (sto - d) - 1)
    rw [ex]
    refine ⟨hin, br_f ?_ ⟨s2, ?_⟩⟩
    · rw [ec, e1]
      exact nI_nlt (by omega) (by omega)
    · rw [s1]
      refine ax_pb hn s3 (nm_r (e' := nI (sto - (d + 1)) - 1) ?_ ?_)
      · rw [ad_m1s, em]
      · rw [em]
        exact hnext
theorem ax_ca {r : Nat} (h : ad_hX g a_altRule a_altStart a_altEnd a_symbols) (hr : r < 8) (hp : post (nI (ad_cn (fun i => decide (ad_ru g i = r)) (ad_C g)))) : wpX_countAlts post (f_tokenLimit, f_nodeLimit, (nI (ad_C g)), (nI (ad_M g)), f_compiled, (nI n), f_resultSize, f_resultError, a_altRule, a_altNumber, a_altStart, a_altEnd, a_symbols, a_input, a_firstRules, a_spans, a_begun, a_symbolOf, a_altOf, a_parentOf, a_startOf, a_endOf, a_ambiguousOf, a_nextSymbol, a_stopSymbol, a_goalsOf) (nI r) := by
  refine pk_loop (fun k i x => wX_countAlts_4 post (nI r) f_tokenLimit f_nodeLimit (nI (ad_C g)) (nI (ad_M g)) f_compiled (nI n) f_resultSize f_resultError a_altRule a_altNumber a_altStart a_altEnd a_symbols a_input a_firstRules a_spans a_begun a_symbolOf a_altOf a_parentOf a_startOf a_endOf a_ambiguousOf a_nextSymbol a_stopSymbol a_goalsOf k x (nI i)) (fun i x => x = nI (ad_cn (fun i => decide (ad_ru g i = r)) i)) (ad_C g) 0 0 (by omega) rfl ?_ ?_
  · intro k x hx
    subst hx
    have := h.1.1
    exact br_t (nI_le (by omega) (by omega)) hp
  · intro k i x hi hx ih
    subst hx
    have hnext := ih _ rfl
    obtain ⟨e1, e2, e3, hin, h8, h48, h16⟩ := ad_hX_a h hi
    have := h.1.1
    refine br_f (nI_ge (by omega) (by omega)) ⟨hin, ?_⟩
    rw [e1]
    refine pk_eq (ad_ru g i) r (fun e => ?_) (fun e => ?_)
    · refine nm_r (e' := nI (ad_cn (fun i => decide (ad_ru g i = r)) (i + 1))) ?_ (nm_r (nI_1 i) hnext)
      rw [nI_1]
      show _ = nI (ad_cn (fun i => decide (ad_ru g i = r)) i + (if decide (ad_ru g i = r) = true then 1 else 0))
      rw [if_pos (decide_eq_true e)]
    · have e : ad_cn (fun i => decide (ad_ru g i = r)) (i + 1) = ad_cn (fun i => decide (ad_ru g i = r)) i := by
        show ad_cn (fun i => decide (ad_ru g i = r)) i + (if decide (ad_ru g i = r) = true then 1 else 0) = _
        rw [if_neg (by rw [decide_eq_true_iff]; exact e)]
        rfl
      rw [e] at hnext
      exact nm_r (nI_1 i) hnext
end
