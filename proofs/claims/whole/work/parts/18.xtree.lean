/-! ===== the component: steps of the growing tree ===== -/
theorem ad_nm1 {o : Nat} (h : o < 2 ^ 31) : ¬ nI o = -1 := by
  intro e
  have h1 := congrArg Int32.toInt e
  rw [nI_toInt h, show (-1 : Int32).toInt = -1 from by decide] at h1
  omega
section
variable {f_tokenLimit f_nodeLimit f_altCount f_symbolCount f_compiled f_inputLength f_resultSize f_resultError : Int32} {a_altRule a_altNumber a_altStart a_altEnd a_symbols a_input a_firstRules a_spans a_begun a_symbolOf a_altOf a_parentOf a_startOf a_endOf a_ambiguousOf a_nextSymbol a_stopSymbol a_goalsOf : Nat → Int32}
variable {g : ad_G} {tk : Nat → Nat} {n : Nat}
theorem ax_an {post : SX → Prop} {c : Nat} {p0 p1 p2 : Int32} (hc : c < 64) (hp : post (f_tokenLimit, f_nodeLimit, (nI (ad_C g)), (nI (ad_M g)), f_compiled, (nI n), (nI (c + 1)), f_resultError, a_altRule, a_altNumber, a_altStart, a_altEnd, a_symbols, a_input, a_firstRules, a_spans, a_begun, (upd a_symbolOf c p0), (upd a_altOf c 0), (upd a_parentOf c p1), (upd a_startOf c p2), a_endOf, (upd a_ambiguousOf c 0), a_nextSymbol, a_stopSymbol, a_goalsOf)) : wpX_addNode post (f_tokenLimit, f_nodeLimit, (nI (ad_C g)), (nI (ad_M g)), f_compiled, (nI n), (nI c), f_resultError, a_altRule, a_altNumber, a_altStart, a_altEnd, a_symbols, a_input, a_firstRules, a_spans, a_begun, a_symbolOf, a_altOf, a_parentOf, a_startOf, a_endOf, a_ambiguousOf, a_nextSymbol, a_stopSymbol, a_goalsOf) p0 p1 p2 := by
  have hin : vp_in (nI c) 64 := vp_in_nI hc (by omega)
  have ec : (nI c).toNatClampNeg = c := nI_clamp (by omega)
  exact ⟨hin, nm_r (by rw [ec]) ⟨hin, nm_r (by rw [ec]) ⟨hin, nm_r (by rw [ec]) ⟨hin, nm_r (by rw [ec]) ⟨hin, nm_r (by rw [ec, ad_nb0]) (nm_r (nI_1 c) hp)⟩⟩⟩⟩⟩
theorem xs_end {post : Int32 → SX → Prop} {k step : Nat} {pos : Int32} (hs : step < 128) (hp : post 1 (f_tokenLimit, f_nodeLimit, (nI (ad_C g)), (nI (ad_M g)), f_compiled, (nI n), f_resultSize, f_resultError, a_altRule, a_altNumber, a_altStart, a_altEnd, a_symbols, a_input, a_firstRules, a_spans, a_begun, a_symbolOf, a_altOf, a_parentOf, a_startOf, a_endOf, a_ambiguousOf, a_nextSymbol, a_stopSymbol, a_goalsOf)) : wX_growTree_29 post (k + 1) (-1) pos (nI step) f_tokenLimit f_nodeLimit (nI (ad_C g)) (nI (ad_M g)) f_compiled (nI n) f_resultSize f_resultError a_altRule a_altNumber a_altStart a_altEnd a_symbols a_input a_firstRules a_spans a_begun a_symbolOf a_altOf a_parentOf a_startOf a_endOf a_ambiguousOf a_nextSymbol a_stopSymbol a_goalsOf :=
  br_f (nI_ge (b := 128) hs (by decide)) (br_t rfl hp)
theorem xs_close {post : Int32 → SX → Prop} {k step pos o e e' : Nat} (hs : step < 128) (ho : o < 64) (h1 : a_nextSymbol o = nI e) (h2 : a_stopSymbol o = nI e') (he : e' ≤ e) (h48 : e ≤ 48) (hp : wX_growTree_29 post k (a_parentOf o) (nI pos) (nI (step + 1)) f_tokenLimit f_nodeLimit (nI (ad_C g)) (nI (ad_M g)) f_compiled (nI n) f_resultSize f_resultError a_altRule a_altNumber a_altStart a_altEnd a_symbols a_input a_firstRules a_spans a_begun a_symbolOf a_altOf a_parentOf a_startOf (upd a_endOf o (nI pos)) a_ambiguousOf a_nextSymbol a_stopSymbol a_goalsOf) : wX_growTree_29 post (k + 1) (nI o) (nI pos) (nI step) f_tokenLimit f_nodeLimit (nI (ad_C g)) (nI (ad_M g)) f_compiled (nI n) f_resultSize f_resultError a_altRule a_altNumber a_altStart a_altEnd a_symbols a_input a_firstRules a_spans a_begun a_symbolOf a_altOf a_parentOf a_startOf a_endOf a_ambiguousOf a_nextSymbol a_stopSymbol a_goalsOf := by
  have hin : vp_in (nI o) 64 := vp_in_nI ho (by omega)
  have ec : (nI o).toNatClampNeg = o := nI_clamp (by omega)
  refine br_f (nI_ge (b := 128) hs (by decide)) (br_f (ad_nm1 (by omega)) ⟨hin, hin, br_f ?_ ⟨hin, nm_r (by rw [ec]) ⟨hin, nm_r (by rw [ec]) (nm_r (nI_1 _) hp)⟩⟩⟩)
  rw [ec, h1, h2]
  exact nI_nlt he (by omega)
theorem xs_full {post : Int32 → SX → Prop} {k step pos o e e' c lim : Nat} (hs : step < 128) (ho : o < 64) (h1 : a_nextSymbol o = nI e) (h2 : a_stopSymbol o = nI e') (he : e < e') (h48 : e' ≤ 48) (hc : lim ≤ c) (hl : c ≤ 64) (hp : post 0 (f_tokenLimit, (nI lim), (nI (ad_C g)), (nI (ad_M g)), f_compiled, (nI n), (nI c), f_resultError, a_altRule, a_altNumber, a_altStart, a_altEnd, a_symbols, a_input, a_firstRules, a_spans, a_begun, a_symbolOf, a_altOf, a_parentOf, a_startOf, a_endOf, a_ambiguousOf, a_nextSymbol, a_stopSymbol, a_goalsOf)) : wX_growTree_29 post (k + 1) (nI o) (nI pos) (nI step) f_tokenLimit (nI lim) (nI (ad_C g)) (nI (ad_M g)) f_compiled (nI n) (nI c) f_resultError a_altRule a_altNumber a_altStart a_altEnd a_symbols a_input a_firstRules a_spans a_begun a_symbolOf a_altOf a_parentOf a_startOf a_endOf a_ambiguousOf a_nextSymbol a_stopSymbol a_goalsOf := by
  have hin : vp_in (nI o) 64 := vp_in_nI ho (by omega)
  have ec : (nI o).toNatClampNeg = o := nI_clamp (by omega)
  refine br_f (nI_ge (b := 128) hs (by decide)) (br_f (ad_nm1 (by omega)) ⟨hin, hin, br_t ?_ (br_f (nI_nlt hc (by omega)) hp)⟩)
  rw [ec, h1, h2]
  exact nI_lt he (by omega)
theorem xs_tok {post : Int32 → SX → Prop} {k step pos o e e' c lim s : Nat} (hs : step < 128) (ho : o < 64) (h1 : a_nextSymbol o = nI e) (h2 : a_stopSymbol o = nI e') (he : e < e') (h48 : e' ≤ 48) (hc : c < lim) (hl : lim ≤ 64) (hsy : a_symbols e = nI s) (h16 : s < 16)
    (hp : wX_growTree_29 post k (nI o) (nI (pos + 1)) (nI (step + 1)) f_tokenLimit (nI lim) (nI (ad_C g)) (nI (ad_M g)) f_compiled (nI n) (nI (c + 1)) f_resultError a_altRule a_altNumber a_altStart a_altEnd a_symbols a_input a_firstRules a_spans a_begun (upd a_symbolOf c (nI s)) (upd a_altOf c 0) (upd a_parentOf c (nI o)) (upd a_startOf c (nI pos)) (upd a_endOf c (nI (pos + 1))) (upd a_ambiguousOf c 0) (upd a_nextSymbol o (nI (e + 1))) a_stopSymbol a_goalsOf) : wX_growTree_29 post (k + 1) (nI o) (nI pos) (nI step) f_tokenLimit (nI lim) (nI (ad_C g)) (nI (ad_M g)) f_compiled (nI n) (nI c) f_resultError a_altRule a_altNumber a_altStart a_altEnd a_symbols a_input a_firstRules a_spans a_begun a_symbolOf a_altOf a_parentOf a_startOf a_endOf a_ambiguousOf a_nextSymbol a_stopSymbol a_goalsOf := by
  have hin : vp_in (nI o) 64 := vp_in_nI ho (by omega)
  have ec : (nI o).toNatClampNeg = o := nI_clamp (by omega)
  have ee : (nI e).toNatClampNeg = e := nI_clamp (by omega)
  have e1 : a_nextSymbol (nI o).toNatClampNeg = nI e := by rw [ec]; exact h1
  have hcc : (nI c).toNatClampNeg = c := nI_clamp (by omega)
  refine br_f (nI_ge (b := 128) hs (by decide)) (br_f (ad_nm1 (by omega)) ⟨hin, hin, br_t ?_ (br_t (nI_lt hc (by omega)) ⟨hin, ?_⟩)⟩)
  · rw [e1, ec, h2]
    exact nI_lt he (by omega)
  · rw [e1]
    refine ⟨vp_in_nI (by omega) (by omega), nm_r (show a_symbols (nI e).toNatClampNeg = nI s by rw [ee]; exact hsy) ⟨hin, hin, nm_r (by rw [ec, nI_1]) (br_f (nI_ge (b := 16) h16 (by decide)) (ax_an (by omega) (nm_r (nI_1 pos) ⟨vp_in_nI (by omega) (by omega), nm_r (by rw [hcc]) (nm_r (nI_1 step) hp)⟩)))⟩⟩
theorem xs_rule {post : Int32 → SX → Prop} {k step pos o e e' c lim s b : Nat} {G0 : Int32} (h : ad_hX g a_altRule a_altStart a_altEnd a_symbols) (hn : n ≤ 12) (hs : step < 128) (ho : o < c) (h1 : a_nextSymbol o = nI e) (h2 : a_stopSymbol o = nI e') (h3 : a_goalsOf o = G0) (he : e < e') (hM : e' ≤ ad_M g) (hc : c < lim) (hl : lim ≤ 64) (hsy : a_symbols e = nI s) (h16 : 16 ≤ s) (h24 : s < 24)
    (hb : b < ad_C g) (hv : ad_vX g n (ad_cX a_spans) (ad_gl n (ad_cX a_spans) (ad_sy g) e' (e' - (e + 1)) G0) (s - 16) pos b = true) (hlst : ∀ b', b' < b → ¬ ad_vX g n (ad_cX a_spans) (ad_gl n (ad_cX a_spans) (ad_sy g) e' (e' - (e + 1)) G0) (s - 16) pos b' = true)
    (hp : wX_growTree_29 post k (nI c) (nI pos) (nI (step + 1)) f_tokenLimit (nI lim) (nI (ad_C g)) (nI (ad_M g)) f_compiled (nI n) (nI (c + 1)) f_resultError a_altRule a_altNumber a_altStart a_altEnd a_symbols a_input a_firstRules a_spans a_begun (upd a_symbolOf c (nI (s - 16))) (upd a_altOf c (a_altNumber b)) (upd a_parentOf c (nI o)) (upd a_startOf c (nI pos)) a_endOf (upd a_ambiguousOf c (if ad_cn (ad_vX g n (ad_cX a_spans) (ad_gl n (ad_cX a_spans) (ad_sy g) e' (e' - (e + 1)) G0) (s - 16) pos) (ad_C g) ≤ 1 then 0 else 1)) (upd (upd a_nextSymbol o (nI (e + 1))) c (nI (ad_st g b))) (upd a_stopSymbol c (nI (ad_st g b + ad_ln g b))) (upd a_goalsOf c (ad_gl n (ad_cX a_spans) (ad_sy g) e' (e' - (e + 1)) G0))) : wX_growTree_29 post (k + 1) (nI o) (nI pos) (nI step) f_tokenLimit (nI lim) (nI (ad_C g)) (nI (ad_M g)) f_compiled (nI n) (nI c) f_resultError a_altRule a_altNumber a_altStart a_altEnd a_symbols a_input a_firstRules a_spans a_begun a_symbolOf a_altOf a_parentOf a_startOf a_endOf a_ambiguousOf a_nextSymbol a_stopSymbol a_goalsOf := by
  have hM48 := h.1.2.1
  have hin : vp_in (nI o) 64 := vp_in_nI (by omega) (by omega)
  have ec : (nI o).toNatClampNeg = o := nI_clamp (by omega)
  have ee : (nI e).toNatClampNeg = e := nI_clamp (by omega)
  have e1 : a_nextSymbol (nI o).toNatClampNeg = nI e := by rw [ec]; exact h1
  refine br_f (nI_ge (b := 128) hs (by decide)) (br_f (ad_nm1 (by omega)) ⟨hin, hin, br_t ?_ (br_t (nI_lt hc (by omega)) ⟨hin, ?_⟩)⟩)
  · rw [e1, ec, h2]
    exact nI_lt he (by omega)
  · rw [e1]
    refine ⟨vp_in_nI (by omega) (by omega), nm_r (show a_symbols (nI e).toNatClampNeg = nI s by rw [ee]; exact hsy) ⟨hin, hin, nm_r (e' := upd a_nextSymbol o (nI (e + 1))) (by rw [ec, nI_1]) (br_t (nI_le (a := 16) h16 (by omega)) ?_)⟩⟩
    rw [ad_16 h16]
    refine ax_an (by omega) ?_
    refine ax_gc h hn (c := o) (by omega) pk_us h2 h3 (by omega) hM ?_
    refine ax_ch h hn (by omega) (by omega) pk_us pk_us hb hv hlst ?_
    rw [ad_uu, ad_uu]
    exact nm_r (nI_1 step) hp
end
