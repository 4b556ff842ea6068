/-! ===== choosing an alternative ===== -/
/-- what the reference's frames hold -/
def ad_yF (g : ad_G) (d : Nat) (sa sn : Nat → Nat) (yA yX : Nat → Int32) : Prop := ∀ f, f < d → yA f = nI (sa f) ∧ yX f = nI (sn f) ∧ sa f < ad_C g ∧ sn f ≤ ad_ln g (sa f)
section
variable {f_tokenLimit f_nodeLimit f_altCount f_symCount f_hasCurrent f_compiled f_n f_count f_errPos f_depth f_lastViable : Int32} {a_altRule a_altStart a_altLen a_sym a_tok a_nSym a_nAlt a_nPar a_nStart a_nEnd a_nAmb a_ends a_pre a_flag a_beg a_reach a_stNode a_stAlt a_stNext : Nat → Int32}
variable {g : ad_G} {tk : Nat → Nat} {n : Nat}
theorem ay_cm1 {post : Int32 → Prop} {J : Int32 → Int32 → Prop} {m x2 : Int32} {a s0 : Nat} (h : ad_hY g a_altRule a_altStart a_altLen a_sym) (hi : ad_hI tk n a_tok) (ha : a < ad_C g) (hs0 : s0 ≤ ad_ln g a) (hp : J (ad_ae n (ad_cY tk n a_ends) (ad_sy g) (ad_st g a + s0) (ad_ln g a - s0) m) (x2 + (-1))) : ∃ k, wY_contMask_26 post J x2 (nI a) f_tokenLimit f_nodeLimit (nI (ad_C g)) (nI (ad_M g)) f_hasCurrent f_compiled (nI n) f_count f_errPos f_depth f_lastViable a_altRule a_altStart a_altLen a_sym a_tok a_nSym a_nAlt a_nPar a_nStart a_nEnd a_nAmb a_ends a_pre a_flag a_beg a_reach a_stNode a_stAlt a_stNext k m (nI s0) := by
  obtain ⟨e1, e2, e3, hin, h8, h48, h16⟩ := ad_hY_a h ha
  refine pk_loop (fun k d x => wY_contMask_26 post J x2 (nI a) f_tokenLimit f_nodeLimit (nI (ad_C g)) (nI (ad_M g)) f_hasCurrent f_compiled (nI n) f_count f_errPos f_depth f_lastViable a_altRule a_altStart a_altLen a_sym a_tok a_nSym a_nAlt a_nPar a_nStart a_nEnd a_nAmb a_ends a_pre a_flag a_beg a_reach a_stNode a_stAlt a_stNext k x (nI (s0 + d))) (fun d x => x = ad_ae n (ad_cY tk n a_ends) (ad_sy g) (ad_st g a + s0) d m) (ad_ln g a - s0) 0 _ (by omega) rfl ?_ ?_
  · intro k x hx
    subst hx
    refine ⟨hin, br_t ?_ (nm_e hp)⟩
    rw [e3]
    exact nI_le (by omega) (by omega)
  · intro k d x hd hx ih
    subst hx
    have hnext := ih _ rfl
    obtain ⟨s1, s2, s3, s4⟩ := ad_hY_k h ha (k := s0 + d) (by omega)
    refine ⟨hin, br_f ?_ ⟨hin, s2, ?_⟩⟩
    · rw [e3]
      exact nI_ge (by omega) (by omega)
    · rw [s1]
      refine ay_ss hi s3 (nm_r (nI_1 _) ?_)
      rw [← Nat.add_assoc (ad_st g a) s0 d]
      exact hnext
theorem ay_cm {post : Int32 → Prop} {m : Int32} {d : Nat} {sa sn : Nat → Nat} (h : ad_hY g a_altRule a_altStart a_altLen a_sym) (hi : ad_hI tk n a_tok) (hd : d ≤ 64) (hF : ad_yF g d sa sn a_stAlt a_stNext) (hp : post (ad_cm g n (ad_cY tk n a_ends) sa sn d m)) : wpY_contMask post (f_tokenLimit, f_nodeLimit, (nI (ad_C g)), (nI (ad_M g)), f_hasCurrent, f_compiled, (nI n), f_count, f_errPos, (nI d), f_lastViable, a_altRule, a_altStart, a_altLen, a_sym, a_tok, a_nSym, a_nAlt, a_nPar, a_nStart, a_nEnd, a_nAmb, a_ends, a_pre, a_flag, a_beg, a_reach, a_stNode, a_stAlt, a_stNext) m := by
  refine nm_e ⟨d + 1, ?_⟩
  refine pk_loopD (fun k f x => wY_contMask_7 post f_tokenLimit f_nodeLimit (nI (ad_C g)) (nI (ad_M g)) f_hasCurrent f_compiled (nI n) f_count f_errPos (nI d) f_lastViable a_altRule a_altStart a_altLen a_sym a_tok a_nSym a_nAlt a_nPar a_nStart a_nEnd a_nAmb a_ends a_pre a_flag a_beg a_reach a_stNode a_stAlt a_stNext k x (nI f - 1)) (fun f x => f ≤ d ∧ ad_cm g n (ad_cY tk n a_ends) sa sn f x = ad_cm g n (ad_cY tk n a_ends) sa sn d m) ?_ ?_ d m ⟨Nat.le_refl d, rfl⟩
  · intro k x ⟨_, hx⟩
    refine br_t (by decide) ?_
    have e : x = ad_cm g n (ad_cY tk n a_ends) sa sn d m := hx
    rw [e]
    exact hp
  · intro k f x ⟨hf, hx⟩ ih
    show wY_contMask_7 post f_tokenLimit f_nodeLimit (nI (ad_C g)) (nI (ad_M g)) f_hasCurrent f_compiled (nI n) f_count f_errPos (nI d) f_lastViable a_altRule a_altStart a_altLen a_sym a_tok a_nSym a_nAlt a_nPar a_nStart a_nEnd a_nAmb a_ends a_pre a_flag a_beg a_reach a_stNode a_stAlt a_stNext (k + 1) x (nI (f + 1) - 1)
    rw [nI_pred]
    obtain ⟨a1, a2, a3, a4⟩ := hF f (by omega)
    have hin : vp_in (nI f) 64 := vp_in_nI (by omega) (by omega)
    have ef : (nI f).toNatClampNeg = f := nI_clamp (by omega)
    refine br_f (nI_pos (by omega)) ⟨hin, nm_r (show a_stAlt (nI f).toNatClampNeg = nI (sa f) by rw [ef]; exact a1) ⟨hin, nm_r (show a_stNext (nI f).toNatClampNeg = nI (sn f) by rw [ef]; exact a2) ?_⟩⟩
    refine ay_cm1 h hi a3 a4 ?_
    rw [ad_m1s]
    exact ih _ ⟨by omega, hx⟩
/-- whether the reference may take alternative a of rule r at p -/
def ad_vY (g : ad_G) (n : Nat) (col : Nat → Nat → Int32) (sa sn : Nat → Nat) (d r p a : Nat) : Bool :=
  decide (ad_ru g a = r) && bt (ad_cm g n col sa sn d (ad_ae n col (ad_sy g) (ad_st g a) (ad_ln g a) ((1 : Int32) <<< (nI p &&& 31)))) n
theorem ad_cn_s1 {P : Nat → Bool} {a : Nat} (h : P a = true) : ad_cn P (a + 1) = ad_cn P a + 1 := by
  show ad_cn P a + (if P a = true then 1 else 0) = _
  rw [if_pos h]
theorem ad_cn_s0 {P : Nat → Bool} {a : Nat} (h : ¬ P a = true) : ad_cn P (a + 1) = ad_cn P a := by
  show ad_cn P a + (if P a = true then 1 else 0) = _
  rw [if_neg h]
  rfl
theorem ay_ch {post : Int32 → SY → Prop} {r p d b : Nat} {sa sn : Nat → Nat} (h : ad_hY g a_altRule a_altStart a_altLen a_sym) (hi : ad_hI tk n a_tok) (hd : d ≤ 64) (hF : ad_yF g d sa sn a_stAlt a_stNext) (hr : r < 8) (hb : b < ad_C g) (hv : ad_vY g n (ad_cY tk n a_ends) sa sn d r p b = true) (hl : ∀ b', b' < b → ¬ ad_vY g n (ad_cY tk n a_ends) sa sn d r p b' = true)
    (hp : post (nI b) (f_tokenLimit, f_nodeLimit, (nI (ad_C g)), (nI (ad_M g)), f_hasCurrent, f_compiled, (nI n), f_count, f_errPos, (nI d), (nI (ad_cn (ad_vY g n (ad_cY tk n a_ends) sa sn d r p) (ad_C g))), a_altRule, a_altStart, a_altLen, a_sym, a_tok, a_nSym, a_nAlt, a_nPar, a_nStart, a_nEnd, a_nAmb, a_ends, a_pre, a_flag, a_beg, a_reach, a_stNode, a_stAlt, a_stNext)) : wpY_choose post (f_tokenLimit, f_nodeLimit, (nI (ad_C g)), (nI (ad_M g)), f_hasCurrent, f_compiled, (nI n), f_count, f_errPos, (nI d), f_lastViable, a_altRule, a_altStart, a_altLen, a_sym, a_tok, a_nSym, a_nAlt, a_nPar, a_nStart, a_nEnd, a_nAmb, a_ends, a_pre, a_flag, a_beg, a_reach, a_stNode, a_stAlt, a_stNext) (nI r) (nI p) := by
  have hC := h.1.1
  have hn := hi.1
  refine pk_loop (fun k a x => wY_choose_10 post (nI r) (nI p) f_tokenLimit f_nodeLimit (nI (ad_C g)) (nI (ad_M g)) f_hasCurrent f_compiled (nI n) f_count f_errPos (nI d) a_altRule a_altStart a_altLen a_sym a_tok a_nSym a_nAlt a_nPar a_nStart a_nEnd a_nAmb a_ends a_pre a_flag a_beg a_reach a_stNode a_stAlt a_stNext k x (nI a) (nI (ad_cn (ad_vY g n (ad_cY tk n a_ends) sa sn d r p) a))) (fun a x => x = if a ≤ b then -1 else nI b) (ad_C g) 0 (-1) (by omega) (if_pos (by omega)).symm ?_ ?_
  · intro k x hx
    rw [if_neg (by omega)] at hx
    subst hx
    exact br_t (nI_le (by omega) (by omega)) hp
  · intro k a x ha hx ih
    obtain ⟨e1, e2, e3, hin, h8, h48, h16⟩ := ad_hY_a h ha
    have hcn := ad_cn_le (ad_vY g n (ad_cY tk n a_ends) sa sn d r p) a
    refine br_f (nI_ge (by omega) (by omega)) ⟨hin, ?_⟩
    rw [e1]
    have hno : ¬ ad_vY g n (ad_cY tk n a_ends) sa sn d r p a = true → wY_choose_10 post (nI r) (nI p) f_tokenLimit f_nodeLimit (nI (ad_C g)) (nI (ad_M g)) f_hasCurrent f_compiled (nI n) f_count f_errPos (nI d) a_altRule a_altStart a_altLen a_sym a_tok a_nSym a_nAlt a_nPar a_nStart a_nEnd a_nAmb a_ends a_pre a_flag a_beg a_reach a_stNode a_stAlt a_stNext k x (nI (a + 1)) (nI (ad_cn (ad_vY g n (ad_cY tk n a_ends) sa sn d r p) a)) := by
      intro hna
      have hab : ¬ a = b := fun e => hna (by rw [e]; exact hv)
      have hnext := ih x (by rw [hx]; by_cases c : a ≤ b; · rw [if_pos c, if_pos (by omega)]
                             · rw [if_neg c, if_neg (by omega)])
      rw [ad_cn_s0 hna] at hnext
      exact hnext
    refine pk_eq (ad_ru g a) r (fun e => ?_) (fun e => ?_)
    · refine ay_ae h hi ha (ay_cm h hi hd hF (ek_if (ad_has (by omega)) (fun hz => ?_) (fun hz => ?_)))
      · refine nm_r (nI_1 a) (hno fun hva => ?_)
        unfold ad_vY at hva
        rw [Bool.and_eq_true] at hva
        exact hz hva.2
      · have hz : bt (ad_cm g n (ad_cY tk n a_ends) sa sn d (ad_ae n (ad_cY tk n a_ends) (ad_sy g) (ad_st g a) (ad_ln g a) ((1 : Int32) <<< (nI p &&& 31)))) n = true := Classical.byContradiction hz
        have hva : ad_vY g n (ad_cY tk n a_ends) sa sn d r p a = true := by
          unfold ad_vY
          rw [Bool.and_eq_true]
          exact ⟨decide_eq_true e, hz⟩
        have hba : b ≤ a := Nat.not_lt.mp fun c => hl a c hva
        have hnext := ih (nI b) (if_neg (by omega)).symm
        rw [ad_cn_s1 hva] at hnext
        refine nm_r (nI_1 _) ?_
        by_cases c : a = b
        · rw [if_pos (by omega)] at hx
          subst hx c
          exact br_f (by decide) (nm_r (nI_1 a) hnext)
        · rw [if_neg (by omega)] at hx
          subst hx
          exact br_t (nI_pos' (by omega)) (nm_r (nI_1 a) hnext)
    · refine nm_r (nI_1 a) (hno fun hva => ?_)
      unfold ad_vY at hva
      rw [Bool.and_eq_true] at hva
      exact e (of_decide_eq_true hva.1)
theorem ay_an {post : Int32 → Prop} {a : Nat} (h : ad_hY g a_altRule a_altStart a_altLen a_sym) (ha : a < ad_C g) (hp : post (nI (1 + ad_cn (fun i => decide (ad_ru g i = ad_ru g a)) a))) : wpY_altNumber post (f_tokenLimit, f_nodeLimit, (nI (ad_C g)), (nI (ad_M g)), f_hasCurrent, f_compiled, (nI n), f_count, f_errPos, f_depth, f_lastViable, a_altRule, a_altStart, a_altLen, a_sym, a_tok, a_nSym, a_nAlt, a_nPar, a_nStart, a_nEnd, a_nAmb, a_ends, a_pre, a_flag, a_beg, a_reach, a_stNode, a_stAlt, a_stNext) (nI a) := by
  have hC := h.1.1
  obtain ⟨b1, b2, b3, bin, b8, b48, b16⟩ := ad_hY_a h ha
  refine pk_loop (fun k i x => wY_altNumber_4 post (nI a) f_tokenLimit f_nodeLimit (nI (ad_C g)) (nI (ad_M g)) f_hasCurrent f_compiled (nI n) f_count f_errPos f_depth f_lastViable a_altRule a_altStart a_altLen a_sym a_tok a_nSym a_nAlt a_nPar a_nStart a_nEnd a_nAmb a_ends a_pre a_flag a_beg a_reach a_stNode a_stAlt a_stNext k x (nI i)) (fun i x => x = nI (1 + ad_cn (fun i => decide (ad_ru g i = ad_ru g a)) i)) a 0 1 (by omega) rfl ?_ ?_
  · intro k x hx
    subst hx
    exact br_t (nI_le (by omega) (by omega)) hp
  · intro k i x hi hx ih
    subst hx
    have hnext := ih _ rfl
    obtain ⟨e1, e2, e3, hin, h8, h48, h16⟩ := ad_hY_a h (a := i) (by omega)
    refine br_f (nI_ge (by omega) (by omega)) ⟨hin, bin, ?_⟩
    rw [e1, b1]
    refine pk_eq (ad_ru g i) (ad_ru g a) (fun e => ?_) (fun e => ?_)
    · rw [ad_cn_s1 (decide_eq_true e)] at hnext
      exact nm_r (nI_1 _) (nm_r (nI_1 i) hnext)
    · rw [ad_cn_s0 (by rw [decide_eq_true_iff]; exact e)] at hnext
      exact nm_r (nI_1 i) hnext
end
section
variable {f_tokenLimit f_nodeLimit f_altCount f_symbolCount f_compiled f_inputLength f_resultSize f_resultError : Int32} {a_altRule a_altNumber a_altStart a_altEnd a_symbols a_input a_firstRules a_spans a_begun a_symbolOf a_altOf a_parentOf a_startOf a_endOf a_ambiguousOf a_nextSymbol a_stopSymbol a_goalsOf : Nat → Int32}
variable {g : ad_G} {tk : Nat → Nat} {n : Nat}
theorem ad_cn_z {P : Nat → Bool} (n : Nat) (h : ∀ i, i < n → ¬ P i = true) : ad_cn P n = 0 := by
  induction n with
  | zero => rfl
  | succ n ih =>
    rw [ad_cn_s0 (h n (by omega))]
    exact ih fun i hi => h i (by omega)
theorem ax_ta {post : SX → Prop} {c a : Nat} (h : ad_hX g a_altRule a_altStart a_altEnd a_symbols) (hc : c < 64) (ha : a < ad_C g) (hp : post (f_tokenLimit, f_nodeLimit, (nI (ad_C g)), (nI (ad_M g)), f_compiled, (nI n), f_resultSize, f_resultError, a_altRule, a_altNumber, a_altStart, a_altEnd, a_symbols, a_input, a_firstRules, a_spans, a_begun, a_symbolOf, (upd a_altOf c (a_altNumber a)), a_parentOf, a_startOf, a_endOf, a_ambiguousOf, (upd a_nextSymbol c (nI (ad_st g a))), (upd a_stopSymbol c (nI (ad_st g a + ad_ln g a))), a_goalsOf)) : wpX_takeAlt post (f_tokenLimit, f_nodeLimit, (nI (ad_C g)), (nI (ad_M g)), f_compiled, (nI n), f_resultSize, f_resultError, a_altRule, a_altNumber, a_altStart, a_altEnd, a_symbols, a_input, a_firstRules, a_spans, a_begun, a_symbolOf, a_altOf, a_parentOf, a_startOf, a_endOf, a_ambiguousOf, a_nextSymbol, a_stopSymbol, a_goalsOf) (nI c) (nI a) := by
  obtain ⟨e1, e2, e3, hina, h8, h48, h16⟩ := ad_hX_a h ha
  have hin : vp_in (nI c) 64 := vp_in_nI hc (by omega)
  have ec : (nI c).toNatClampNeg = c := nI_clamp (by omega)
  have ea : (nI a).toNatClampNeg = a := nI_clamp (by omega)
  exact ⟨hina, hin, nm_r (by rw [ec, ea]) ⟨hina, hin, nm_r (by rw [ec, e2]) ⟨hina, hin, nm_r (by rw [ec, e3]) hp⟩⟩⟩
/-- whether the component may take alternative a of rule r at p -/
def ad_vX (g : ad_G) (n : Nat) (col : Nat → Nat → Int32) (G : Int32) (r p a : Nat) : Bool :=
  decide (ad_ru g a = r) && decide (¬ (ad_ae n col (ad_sy g) (ad_st g a) (ad_ln g a) ((1 : Int32) <<< (nI p &&& 31)) &&& G) = 0)
theorem ax_ch {post : SX → Prop} {c r p b : Nat} {G : Int32} (h : ad_hX g a_altRule a_altStart a_altEnd a_symbols) (hn : n ≤ 12) (hc : c < 64) (hr : r < 8) (hsy : a_symbolOf c = nI r) (hst : a_startOf c = nI p) (hb : b < ad_C g) (hv : ad_vX g n (ad_cX a_spans) G r p b = true) (hl : ∀ b', b' < b → ¬ ad_vX g n (ad_cX a_spans) G r p b' = true)
    (hp : post (f_tokenLimit, f_nodeLimit, (nI (ad_C g)), (nI (ad_M g)), f_compiled, (nI n), f_resultSize, f_resultError, a_altRule, a_altNumber, a_altStart, a_altEnd, a_symbols, a_input, a_firstRules, a_spans, a_begun, a_symbolOf, (upd a_altOf c (a_altNumber b)), a_parentOf, a_startOf, a_endOf, (upd a_ambiguousOf c (if ad_cn (ad_vX g n (ad_cX a_spans) G r p) (ad_C g) ≤ 1 then 0 else 1)), (upd a_nextSymbol c (nI (ad_st g b))), (upd a_stopSymbol c (nI (ad_st g b + ad_ln g b))), (upd a_goalsOf c G))) : wpX_chooseAlt post (f_tokenLimit, f_nodeLimit, (nI (ad_C g)), (nI (ad_M g)), f_compiled, (nI n), f_resultSize, f_resultError, a_altRule, a_altNumber, a_altStart, a_altEnd, a_symbols, a_input, a_firstRules, a_spans, a_begun, a_symbolOf, a_altOf, a_parentOf, a_startOf, a_endOf, a_ambiguousOf, a_nextSymbol, a_stopSymbol, a_goalsOf) (nI c) G := by
  have hC := h.1.1
  have hin : vp_in (nI c) 64 := vp_in_nI hc (by omega)
  have ec : (nI c).toNatClampNeg = c := nI_clamp (by omega)
  refine ⟨hin, ?_⟩
  rw [ec]
  refine nm_e ?_
  refine lp4 (fun k a al nx sto => wX_chooseAlt_12 post (nI c) G k (nI (ad_cn (ad_vX g n (ad_cX a_spans) G r p) a)) (nI a) f_tokenLimit f_nodeLimit (nI (ad_C g)) (nI (ad_M g)) f_compiled (nI n) f_resultSize f_resultError a_altRule a_altNumber a_altStart a_altEnd a_symbols a_input a_firstRules a_spans a_begun a_symbolOf al a_parentOf a_startOf a_endOf a_ambiguousOf nx sto (upd a_goalsOf c G)) (fun a al nx sto => a ≤ ad_C g ∧ (a ≤ b → al = a_altOf ∧ nx = a_nextSymbol ∧ sto = a_stopSymbol) ∧ (b < a → al = upd a_altOf c (a_altNumber b) ∧ nx = upd a_nextSymbol c (nI (ad_st g b)) ∧ sto = upd a_stopSymbol c (nI (ad_st g b + ad_ln g b)))) (fun a _ _ _ => ad_C g - a) ?_ 0 a_altOf a_nextSymbol a_stopSymbol ⟨by omega, fun _ => ⟨rfl, rfl, rfl⟩, fun z => absurd z (Nat.not_lt_zero b)⟩
  intro k a al nx sto ⟨hac, h1, h2⟩ ih
  have hcn := ad_cn_le (ad_vX g n (ad_cX a_spans) G r p) a
  by_cases he : a = ad_C g
  · subst he
    obtain ⟨z1, z2, z3⟩ := h2 hb
    subst z1 z2 z3
    refine br_t (nI_le (by omega) (by omega)) (pk_le (ad_cn (ad_vX g n (ad_cX a_spans) G r p) (ad_C g)) 1 (fun y => ⟨hin, ?_⟩) (fun y => ⟨hin, ?_⟩))
    · rw [ec, ad_nb0]
      rw [if_pos y] at hp
      exact nm_e hp
    · rw [ec, ad_nb1]
      rw [if_neg (by omega)] at hp
      exact nm_e hp
  · have ha : a < ad_C g := by omega
    obtain ⟨e1, e2, e3, hina, h8, h48, h16⟩ := ad_hX_a h ha
    refine br_f (nI_ge (by omega) (by omega)) ⟨hina, hin, ?_⟩
    rw [e1, ec, hsy]
    have hno : ¬ ad_vX g n (ad_cX a_spans) G r p a = true → wX_chooseAlt_12 post (nI c) G k (nI (ad_cn (ad_vX g n (ad_cX a_spans) G r p) a)) (nI (a + 1)) f_tokenLimit f_nodeLimit (nI (ad_C g)) (nI (ad_M g)) f_compiled (nI n) f_resultSize f_resultError a_altRule a_altNumber a_altStart a_altEnd a_symbols a_input a_firstRules a_spans a_begun a_symbolOf al a_parentOf a_startOf a_endOf a_ambiguousOf nx sto (upd a_goalsOf c G) := by
      intro hna
      have hab : ¬ a = b := fun e => hna (by rw [e]; exact hv)
      have hnext := ih (a + 1) al nx sto ⟨by omega, fun z => h1 (by omega), fun z => h2 (by omega)⟩ (by omega)
      rw [ad_cn_s0 hna] at hnext
      exact hnext
    refine pk_eq (ad_ru g a) r (fun e => ⟨hin, ?_⟩) (fun e => ?_)
    · rw [hst]
      refine ax_ea h hn ha ?_
      by_cases hz : (ad_ae n (ad_cX a_spans) (ad_sy g) (ad_st g a) (ad_ln g a) ((1 : Int32) <<< (nI p &&& 31)) &&& G) = 0
      · refine br_t hz (nm_r (nI_1 a) (hno fun hva => ?_))
        unfold ad_vX at hva
        rw [Bool.and_eq_true] at hva
        exact of_decide_eq_true hva.2 hz
      · have hva : ad_vX g n (ad_cX a_spans) G r p a = true := by
          unfold ad_vX
          rw [Bool.and_eq_true]
          exact ⟨decide_eq_true e, decide_eq_true hz⟩
        have hba : b ≤ a := Nat.not_lt.mp fun z => hl a z hva
        refine br_f hz (nm_r (nI_1 _) ?_)
        by_cases hab : a = b
        · subst hab
          obtain ⟨z1, z2, z3⟩ := h1 (Nat.le_refl a)
          subst z1 z2 z3
          have hcz : ad_cn (ad_vX g n (ad_cX a_spans) G r p) a = 0 := ad_cn_z a hl
          have hnext := ih (a + 1) (upd al c (a_altNumber a)) (upd nx c (nI (ad_st g a))) (upd sto c (nI (ad_st g a + ad_ln g a))) ⟨by omega, fun z => absurd z (by omega), fun _ => ⟨rfl, rfl, rfl⟩⟩ (by omega)
          rw [ad_cn_s1 hva] at hnext
          refine br_t (by rw [hcz]; rfl) (ax_ta h hc ha (nm_r (nI_1 a) hnext))
        · have hpos := ad_cn_pos (P := ad_vX g n (ad_cX a_spans) G r p) a b (by omega) hv
          have hnext := ih (a + 1) al nx sto ⟨by omega, fun z => absurd z (by omega), fun z => h2 (by omega)⟩ (by omega)
          rw [ad_cn_s1 hva] at hnext
          exact pk_eq (ad_cn (ad_vX g n (ad_cX a_spans) G r p) a + 1) 1 (fun y => absurd y (by omega)) (fun _ => nm_r (nI_1 a) hnext)
    · refine nm_r (nI_1 a) (hno fun hva => ?_)
      unfold ad_vX at hva
      rw [Bool.and_eq_true] at hva
      exact e (of_decide_eq_true hva.1)
end
