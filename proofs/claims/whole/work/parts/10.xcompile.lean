/-! ===== the component: compile ===== -/
def ad_fr (g : ad_G) (a q : Nat) : Prop := ∃ k, k < ad_ln g a ∧ ad_sy g (ad_st g a + k) = 16 + q ∧ ∀ j, j < k → 16 ≤ ad_sy g (ad_st g a + j) ∧ ad_LS g false (ad_sy g (ad_st g a + j) - 16)
theorem ad_bw_fr {g : ad_G} {r q : Nat} : ad_bw g r q ↔ ∃ a, a < ad_C g ∧ ad_ru g a = r ∧ ad_fr g a q := Iff.rfl
def ad_und (g : ad_G) : Prop := ∃ i, i < ad_M g ∧ 16 ≤ ad_sy g i ∧ ¬ ad_df g (ad_sy g i - 16)
def ad_unp (g : ad_G) : Prop := ∃ r, r < 8 ∧ ad_df g r ∧ ¬ ad_LS g true r
def ad_bI (T : Bool) : Int32 := if T = true then 1 else 0
/-- where a run of nullable rules ends -/
theorem ad_fr_end {g : ad_G} {a d q : Nat} (hd : d ≤ ad_ln g a) (hp : ∀ j, j < d → 16 ≤ ad_sy g (ad_st g a + j) ∧ ad_LS g false (ad_sy g (ad_st g a + j) - 16)) (hs : d < ad_ln g a → ad_sy g (ad_st g a + d) < 16) : ad_fr g a q ↔ ∃ k, k < d ∧ ad_sy g (ad_st g a + k) = 16 + q := by
  constructor
  · intro ⟨k, h1, h2, h3⟩
    refine ⟨k, ?_, h2⟩
    by_cases z : k < d
    · exact z
    · have hd2 : d < ad_ln g a := by omega
      have h4 := hs hd2
      by_cases z2 : k = d
      · subst z2; omega
      · have := (h3 d (by omega)).1; omega
  · intro ⟨k, h1, h2⟩
    exact ⟨k, by omega, h2, fun j hj => hp j (by omega)⟩
theorem ad_fr_stop {g : ad_G} {a d q : Nat} (hd : d < ad_ln g a) (hp : ∀ j, j < d → 16 ≤ ad_sy g (ad_st g a + j) ∧ ad_LS g false (ad_sy g (ad_st g a + j) - 16)) (hs : ¬ ad_LS g false (ad_sy g (ad_st g a + d) - 16)) : ad_fr g a q ↔ ∃ k, k < d + 1 ∧ ad_sy g (ad_st g a + k) = 16 + q := by
  constructor
  · intro ⟨k, h1, h2, h3⟩
    refine ⟨k, ?_, h2⟩
    by_cases z : k < d + 1
    · exact z
    · exact absurd (h3 d (by omega)).2 hs
  · intro ⟨k, h1, h2⟩
    exact ⟨k, by omega, h2, fun j hj => hp j (by omega)⟩
section
variable {f_tokenLimit f_nodeLimit f_altCount f_symbolCount f_compiled f_inputLength f_resultSize f_resultError : Int32} {a_altRule a_altNumber a_altStart a_altEnd a_symbols a_input a_firstRules a_spans a_begun a_symbolOf a_altOf a_parentOf a_startOf a_endOf a_ambiguousOf a_nextSymbol a_stopSymbol a_goalsOf : Nat → Int32}
variable {g : ad_G} {tk : Nat → Nat} {n : Nat}
theorem ax_df {post : Int32 → Prop} (h : ad_hX g a_altRule a_altStart a_altEnd a_symbols) (hp : ∀ x, (∀ q, bt x q = true ↔ ad_df g q) → post x) : wpX_definedRules post (f_tokenLimit, f_nodeLimit, (nI (ad_C g)), (nI (ad_M g)), f_compiled, (nI n), f_resultSize, f_resultError, a_altRule, a_altNumber, a_altStart, a_altEnd, a_symbols, a_input, a_firstRules, a_spans, a_begun, a_symbolOf, a_altOf, a_parentOf, a_startOf, a_endOf, a_ambiguousOf, a_nextSymbol, a_stopSymbol, a_goalsOf) := by
  have hC := h.1.1
  refine pk_loop (fun k i x => wX_definedRules_4 post f_tokenLimit f_nodeLimit (nI (ad_C g)) (nI (ad_M g)) f_compiled (nI n) f_resultSize f_resultError a_altRule a_altNumber a_altStart a_altEnd a_symbols a_input a_firstRules a_spans a_begun a_symbolOf a_altOf a_parentOf a_startOf a_endOf a_ambiguousOf a_nextSymbol a_stopSymbol a_goalsOf k x (nI i)) (fun i x => ∀ q, bt x q = true ↔ ∃ a, a < i ∧ ad_ru g a = q) (ad_C g) 0 0 (by omega) ?_ ?_ ?_
  · intro q
    rw [b_0]
    exact ⟨fun z => (nomatch z), fun ⟨a, ha, _⟩ => absurd ha (Nat.not_lt_zero a)⟩
  · intro k x hx
    exact br_t (nI_le (by omega) (by omega)) (hp x hx)
  · intro k i x hi hx ih
    obtain ⟨e1, e2, e3, hin, h8, h48, h16⟩ := ad_hX_a h hi
    refine br_f (nI_ge (by omega) (by omega)) ⟨hin, ?_⟩
    rw [e1]
    refine nm_e (nm_r (nI_1 i) (ih _ ?_))
    intro q
    rw [ad_orb, ad_bit (by omega), hx]
    constructor
    · intro z
      rcases z with ⟨a, h1, h2⟩ | z
      · exact ⟨a, by omega, h2⟩
      · exact ⟨i, by omega, z.symm⟩
    · intro ⟨a, h1, h2⟩
      by_cases e : a = i
      · subst e; exact Or.inr h2.symm
      · exact Or.inl ⟨a, by omega, h2⟩
theorem ax_hu {post : Int32 → Prop} {x : Int32} (h : ad_hX g a_altRule a_altStart a_altEnd a_symbols) (hx : ∀ q, bt x q = true ↔ ad_df g q) (h1 : ad_und g → post 1) (h0 : ¬ ad_und g → post 0) : wpX_hasUndefinedRule post (f_tokenLimit, f_nodeLimit, (nI (ad_C g)), (nI (ad_M g)), f_compiled, (nI n), f_resultSize, f_resultError, a_altRule, a_altNumber, a_altStart, a_altEnd, a_symbols, a_input, a_firstRules, a_spans, a_begun, a_symbolOf, a_altOf, a_parentOf, a_startOf, a_endOf, a_ambiguousOf, a_nextSymbol, a_stopSymbol, a_goalsOf) x := by
  have hM := h.1.2.1
  refine pk_loop (fun k i (_ : Unit) => wX_hasUndefinedRule_2 post x f_tokenLimit f_nodeLimit (nI (ad_C g)) (nI (ad_M g)) f_compiled (nI n) f_resultSize f_resultError a_altRule a_altNumber a_altStart a_altEnd a_symbols a_input a_firstRules a_spans a_begun a_symbolOf a_altOf a_parentOf a_startOf a_endOf a_ambiguousOf a_nextSymbol a_stopSymbol a_goalsOf k (nI i)) (fun i _ => ∀ j, j < i → 16 ≤ ad_sy g j → ad_df g (ad_sy g j - 16)) (ad_M g) 0 () (by omega) (fun j hj => absurd hj (Nat.not_lt_zero j)) ?_ ?_
  · intro k _ hI
    exact br_t (nI_le (by omega) (by omega)) (h0 fun ⟨i, z1, z2, z3⟩ => z3 (hI i z1 z2))
  · intro k i _ hi hI ih
    obtain ⟨s1, s2, s3, s4⟩ := ad_hX_s h hi
    have hnext : (16 ≤ ad_sy g i → ad_df g (ad_sy g i - 16)) → wX_hasUndefinedRule_2 post x f_tokenLimit f_nodeLimit (nI (ad_C g)) (nI (ad_M g)) f_compiled (nI n) f_resultSize f_resultError a_altRule a_altNumber a_altStart a_altEnd a_symbols a_input a_firstRules a_spans a_begun a_symbolOf a_altOf a_parentOf a_startOf a_endOf a_ambiguousOf a_nextSymbol a_stopSymbol a_goalsOf k (nI (i + 1)) := fun hf => ih () fun j hj hs => by
      by_cases e : j = i
      · subst e; exact hf hs
      · exact hI j (by omega) hs
    refine br_f (nI_ge (by omega) (by omega)) ⟨s2, ?_⟩
    rw [s1]
    refine pk_lt (ad_sy g i) 16 (fun z => nm_r (nI_1 i) (hnext fun y => absurd y (by omega))) (fun z => ⟨s2, ?_⟩)
    rw [ad_16 z]
    refine ax_ct (by omega) (fun hb => ?_) (fun hb => ?_)
    · exact br_f (by decide) (nm_r (nI_1 i) (hnext fun _ => (hx _).mp hb))
    · exact br_t rfl (h1 ⟨i, hi, z, fun hd => hb ((hx _).mpr hd)⟩)
theorem ax_am {post : Int32 → Prop} {x : Int32} {T : Bool} {a : Nat} (h : ad_hX g a_altRule a_altStart a_altEnd a_symbols) (ha : a < ad_C g) (h1 : ad_ok g T (fun r => bt x r = true) a → post 1) (h0 : ¬ ad_ok g T (fun r => bt x r = true) a → post 0) : wpX_altMadeOf post (f_tokenLimit, f_nodeLimit, (nI (ad_C g)), (nI (ad_M g)), f_compiled, (nI n), f_resultSize, f_resultError, a_altRule, a_altNumber, a_altStart, a_altEnd, a_symbols, a_input, a_firstRules, a_spans, a_begun, a_symbolOf, a_altOf, a_parentOf, a_startOf, a_endOf, a_ambiguousOf, a_nextSymbol, a_stopSymbol, a_goalsOf) (nI a) x (ad_bI T) := by
  obtain ⟨e1, e2, e3, hin, h8, h48, h16⟩ := ad_hX_a h ha
  refine ⟨hin, nm_r e2 ?_⟩
  refine pk_loop (fun k d (_ : Unit) => wX_altMadeOf_8 post (nI a) x (ad_bI T) f_tokenLimit f_nodeLimit (nI (ad_C g)) (nI (ad_M g)) f_compiled (nI n) f_resultSize f_resultError a_altRule a_altNumber a_altStart a_altEnd a_symbols a_input a_firstRules a_spans a_begun a_symbolOf a_altOf a_parentOf a_startOf a_endOf a_ambiguousOf a_nextSymbol a_stopSymbol a_goalsOf k (nI (ad_st g a + d))) (fun d _ => ∀ k, k < d → (ad_sy g (ad_st g a + k) < 16 ∧ T = true) ∨ (16 ≤ ad_sy g (ad_st g a + k) ∧ bt x (ad_sy g (ad_st g a + k) - 16) = true)) (ad_ln g a) 0 () (by omega) (fun j hj => absurd hj (Nat.not_lt_zero j)) ?_ ?_
  · intro k _ hI
    refine ⟨hin, br_t ?_ (h1 hI)⟩
    rw [e3]
    exact nI_le (by omega) (by omega)
  · intro k d _ hd hI ih
    obtain ⟨s1, s2, s3, s4⟩ := ad_hX_k h ha hd
    have hnext : ((ad_sy g (ad_st g a + d) < 16 ∧ T = true) ∨ (16 ≤ ad_sy g (ad_st g a + d) ∧ bt x (ad_sy g (ad_st g a + d) - 16) = true)) → wX_altMadeOf_8 post (nI a) x (ad_bI T) f_tokenLimit f_nodeLimit (nI (ad_C g)) (nI (ad_M g)) f_compiled (nI n) f_resultSize f_resultError a_altRule a_altNumber a_altStart a_altEnd a_symbols a_input a_firstRules a_spans a_begun a_symbolOf a_altOf a_parentOf a_startOf a_endOf a_ambiguousOf a_nextSymbol a_stopSymbol a_goalsOf k (nI (ad_st g a + (d + 1))) := fun hf => ih () fun j hj => by
      by_cases e : j = d
      · subst e; exact hf
      · exact hI j (by omega)
    refine ⟨hin, br_f ?_ ⟨s2, ?_⟩⟩
    · rw [e3]
      exact nI_ge (by omega) (by omega)
    rw [s1]
    refine pk_le 16 (ad_sy g (ad_st g a + d)) (fun z => ⟨s2, ?_⟩) (fun z => ?_)
    · rw [ad_16 z]
      refine ax_ct (by omega) (fun hb => ?_) (fun hb => ?_)
      · exact br_f (by decide) (nm_r (nI_1 _) (hnext (Or.inr ⟨z, hb⟩)))
      · refine br_t rfl (h0 fun ho => ?_)
        rcases ho d hd with y | y
        · omega
        · exact hb y.2
    · cases T
      · refine br_t rfl (h0 fun ho => ?_)
        rcases ho d hd with y | y
        · exact (nomatch y.2)
        · omega
      · exact br_f (by decide) (nm_r (nI_1 _) (hnext (Or.inl ⟨z, rfl⟩)))
theorem ax_rm {post : Int32 → Prop} {T : Bool} (h : ad_hX g a_altRule a_altStart a_altEnd a_symbols) (hp : ∀ x, (∀ q, bt x q = true ↔ ad_LS g T q) → post x) : wpX_rulesMadeOf post (f_tokenLimit, f_nodeLimit, (nI (ad_C g)), (nI (ad_M g)), f_compiled, (nI n), f_resultSize, f_resultError, a_altRule, a_altNumber, a_altStart, a_altEnd, a_symbols, a_input, a_firstRules, a_spans, a_begun, a_symbolOf, a_altOf, a_parentOf, a_startOf, a_endOf, a_ambiguousOf, a_nextSymbol, a_stopSymbol, a_goalsOf) (ad_bI T) := by
  have hC := h.1.1
  refine pk_loop (fun k j x => wX_rulesMadeOf_4 post (ad_bI T) f_tokenLimit f_nodeLimit (nI (ad_C g)) (nI (ad_M g)) f_compiled (nI n) f_resultSize f_resultError a_altRule a_altNumber a_altStart a_altEnd a_symbols a_input a_firstRules a_spans a_begun a_symbolOf a_altOf a_parentOf a_startOf a_endOf a_ambiguousOf a_nextSymbol a_stopSymbol a_goalsOf k x (nI j)) (fun j x => ad_mI g T j 0 (fun r => bt x r)) 8 0 0 (by omega) (ad_m_0 fun r => by rw [b_0]; decide) ?_ ?_
  · intro k x hx
    exact br_t (by decide) (hp x fun q => ad_m_end h.1 (by omega) hx q)
  · intro k j x hj hx ih
    refine br_f (nI_ge (b := 8) hj (by decide)) ?_
    refine pk_loop (fun k' a x => wX_rulesMadeOf_13 post (wX_rulesMadeOf_4 post (ad_bI T) f_tokenLimit f_nodeLimit (nI (ad_C g)) (nI (ad_M g)) f_compiled (nI n) f_resultSize f_resultError a_altRule a_altNumber a_altStart a_altEnd a_symbols a_input a_firstRules a_spans a_begun a_symbolOf a_altOf a_parentOf a_startOf a_endOf a_ambiguousOf a_nextSymbol a_stopSymbol a_goalsOf k) (ad_bI T) (nI j) f_tokenLimit f_nodeLimit (nI (ad_C g)) (nI (ad_M g)) f_compiled (nI n) f_resultSize f_resultError a_altRule a_altNumber a_altStart a_altEnd a_symbols a_input a_firstRules a_spans a_begun a_symbolOf a_altOf a_parentOf a_startOf a_endOf a_ambiguousOf a_nextSymbol a_stopSymbol a_goalsOf k' x (nI a)) (fun a x => ad_mI g T j a (fun r => bt x r)) (ad_C g) 0 x (by omega) hx ?_ ?_
    · intro k' x hx
      exact br_t (nI_le (by omega) (by omega)) (nm_r (nI_1 j) (ih x (ad_m_round hx)))
    · intro k' a x ha hx ih'
      obtain ⟨e1, e2, e3, hin, h8, h48, h16⟩ := ad_hX_a h ha
      refine br_f (nI_ge (by omega) (by omega)) (ax_am h ha (fun ho => ?_) (fun ho => ?_))
      · refine br_f (by decide) ⟨hin, ?_⟩
        rw [e1]
        refine nm_e (nm_r (nI_1 a) (ih' _ (ad_m_step h.1 ha hx ho fun r => ?_)))
        rw [ad_orb, ad_bit (by omega)]
      · exact br_t rfl (nm_r (nI_1 a) (ih' x (ad_m_skip hx fun z => absurd z ho)))
theorem ax_fa {post : Int32 → Prop} {nul : Int32} {a : Nat} (h : ad_hX g a_altRule a_altStart a_altEnd a_symbols) (ha : a < ad_C g) (hN : ∀ q, bt nul q = true ↔ ad_LS g false q) (hp : ∀ x, (∀ q, bt x q = true ↔ ad_fr g a q) → post x) : wpX_firstRulesOfAlt post (f_tokenLimit, f_nodeLimit, (nI (ad_C g)), (nI (ad_M g)), f_compiled, (nI n), f_resultSize, f_resultError, a_altRule, a_altNumber, a_altStart, a_altEnd, a_symbols, a_input, a_firstRules, a_spans, a_begun, a_symbolOf, a_altOf, a_parentOf, a_startOf, a_endOf, a_ambiguousOf, a_nextSymbol, a_stopSymbol, a_goalsOf) (nI a) nul := by
  obtain ⟨e1, e2, e3, hin, h8, h48, h16⟩ := ad_hX_a h ha
  refine ⟨hin, nm_r e2 ?_⟩
  refine pk_loop (fun k d x => wX_firstRulesOfAlt_10 post (nI a) nul f_tokenLimit f_nodeLimit (nI (ad_C g)) (nI (ad_M g)) f_compiled (nI n) f_resultSize f_resultError a_altRule a_altNumber a_altStart a_altEnd a_symbols a_input a_firstRules a_spans a_begun a_symbolOf a_altOf a_parentOf a_startOf a_endOf a_ambiguousOf a_nextSymbol a_stopSymbol a_goalsOf k x (nI (ad_st g a + d))) (fun d x => (∀ j, j < d → 16 ≤ ad_sy g (ad_st g a + j) ∧ ad_LS g false (ad_sy g (ad_st g a + j) - 16)) ∧ ∀ q, bt x q = true ↔ ∃ k, k < d ∧ ad_sy g (ad_st g a + k) = 16 + q) (ad_ln g a) 0 0 (by omega) ⟨fun j hj => absurd hj (Nat.not_lt_zero j), fun q => by rw [b_0]; exact ⟨fun z => (nomatch z), fun ⟨k, hk, _⟩ => absurd hk (Nat.not_lt_zero k)⟩⟩ ?_ ?_
  · intro k x hx
    refine ⟨hin, br_t ?_ (hp x fun q => (hx.2 q).trans (ad_fr_end (Nat.le_refl _) hx.1 (fun z => absurd z (Nat.lt_irrefl _))).symm)⟩
    rw [e3]
    exact nI_le (by omega) (by omega)
  · intro k d x hd hx ih
    obtain ⟨s1, s2, s3, s4⟩ := ad_hX_k h ha hd
    refine ⟨hin, br_f ?_ ⟨s2, ?_⟩⟩
    · rw [e3]
      exact nI_ge (by omega) (by omega)
    rw [s1]
    refine pk_le 16 (ad_sy g (ad_st g a + d)) (fun z => ⟨s2, ?_⟩) (fun z => ?_)
    · refine nm_r (ad_16 z) (nm_e ?_)
      have hx' : ∀ q, bt (x ||| ((1 : Int32) <<< (nI (ad_sy g (ad_st g a + d) - 16) &&& 31))) q = true ↔ ∃ k, k < d + 1 ∧ ad_sy g (ad_st g a + k) = 16 + q := by
        intro q
        rw [ad_orb, ad_bit (by omega), hx.2]
        constructor
        · intro y
          rcases y with ⟨k, y1, y2⟩ | y
          · exact ⟨k, by omega, y2⟩
          · exact ⟨d, by omega, by omega⟩
        · intro ⟨k, y1, y2⟩
          by_cases e : k = d
          · subst e; exact Or.inr (by omega)
          · exact Or.inl ⟨k, by omega, y2⟩
      refine ax_ct (by omega) (fun hb => ?_) (fun hb => ?_)
      · refine br_f (by decide) (nm_r (nI_1 _) (ih _ ⟨?_, hx'⟩))
        intro j hj
        by_cases e : j = d
        · subst e; exact ⟨z, (hN _).mp hb⟩
        · exact hx.1 j (by omega)
      · exact br_t rfl (hp _ fun q => (hx' q).trans (ad_fr_stop hd hx.1 (fun y => hb ((hN _).mpr y))).symm)
    · exact hp x fun q => (hx.2 q).trans (ad_fr_end (by omega) hx.1 (fun _ => z)).symm
theorem ax_ff {post : SX → Prop} (h : ad_hX g a_altRule a_altStart a_altEnd a_symbols) (hp : ∀ f, (∀ r q, r < 8 → (bt (f r) q = true ↔ ad_bw g r q)) → post (f_tokenLimit, f_nodeLimit, (nI (ad_C g)), (nI (ad_M g)), f_compiled, (nI n), f_resultSize, f_resultError, a_altRule, a_altNumber, a_altStart, a_altEnd, a_symbols, a_input, f, a_spans, a_begun, a_symbolOf, a_altOf, a_parentOf, a_startOf, a_endOf, a_ambiguousOf, a_nextSymbol, a_stopSymbol, a_goalsOf)) : wpX_findFirstRules post (f_tokenLimit, f_nodeLimit, (nI (ad_C g)), (nI (ad_M g)), f_compiled, (nI n), f_resultSize, f_resultError, a_altRule, a_altNumber, a_altStart, a_altEnd, a_symbols, a_input, a_firstRules, a_spans, a_begun, a_symbolOf, a_altOf, a_parentOf, a_startOf, a_endOf, a_ambiguousOf, a_nextSymbol, a_stopSymbol, a_goalsOf) := by
  have hC := h.1.1
  refine pk_loop (fun k i f => wX_findFirstRules_2 post f_tokenLimit f_nodeLimit (nI (ad_C g)) (nI (ad_M g)) f_compiled (nI n) f_resultSize f_resultError k (nI i) a_altRule a_altNumber a_altStart a_altEnd a_symbols a_input f a_spans a_begun a_symbolOf a_altOf a_parentOf a_startOf a_endOf a_ambiguousOf a_nextSymbol a_stopSymbol a_goalsOf) (fun i f => ∀ r, r < i → f r = 0) 8 0 a_firstRules (by omega) (fun r hr => absurd hr (Nat.not_lt_zero r)) ?_ ?_
  · intro k f hf
    refine br_t (by decide) (ax_rm (T := false) h fun nul hN => ?_)
    refine pk_loop (fun k a f => wX_findFirstRules_29 post nul f_tokenLimit f_nodeLimit (nI (ad_C g)) (nI (ad_M g)) f_compiled (nI n) f_resultSize f_resultError k (nI a) a_altRule a_altNumber a_altStart a_altEnd a_symbols a_input f a_spans a_begun a_symbolOf a_altOf a_parentOf a_startOf a_endOf a_ambiguousOf a_nextSymbol a_stopSymbol a_goalsOf) (fun a f => ∀ r q, r < 8 → (bt (f r) q = true ↔ ∃ b, b < a ∧ ad_ru g b = r ∧ ad_fr g b q)) (ad_C g) 0 f (by omega) ?_ ?_ ?_
    · intro r q hr
      rw [hf r hr, b_0]
      exact ⟨fun z => (nomatch z), fun ⟨b, hb, _⟩ => absurd hb (Nat.not_lt_zero b)⟩
    · intro k f hf
      exact br_t (nI_le (by omega) (by omega)) (hp f hf)
    · intro k a f ha hf ih
      obtain ⟨e1, e2, e3, hin, h8, h48, h16⟩ := ad_hX_a h ha
      refine br_f (nI_ge (by omega) (by omega)) (ax_fa h ha hN fun x hx => ⟨hin, ?_⟩)
      rw [e1, nI_clamp (by omega)]
      have h8' : vp_in (nI (ad_ru g a)) 8 := vp_in_nI h8 (by omega)
      refine ⟨h8', h8', nm_e (nm_r (nI_1 a) (ih _ ?_))⟩
      intro r q hr
      by_cases e : r = ad_ru g a
      · subst e
        rw [pk_us, ad_orb, hf _ q h8, hx]
        constructor
        · intro z
          rcases z with ⟨b, z1, z2⟩ | z
          · exact ⟨b, by omega, z2⟩
          · exact ⟨a, by omega, rfl, z⟩
        · intro ⟨b, z1, z2, z3⟩
          by_cases e : b = a
          · subst e; exact Or.inr z3
          · exact Or.inl ⟨b, by omega, z2, z3⟩
      · rw [pk_un e, hf r q hr]
        constructor
        · intro ⟨b, z1, z2⟩
          exact ⟨b, by omega, z2⟩
        · intro ⟨b, z1, z2, z3⟩
          by_cases e2 : b = a
          · subst e2; exact absurd z2.symm e
          · exact ⟨b, by omega, z2, z3⟩
  · intro k i f hi hf ih
    refine br_f (nI_ge (b := 8) hi (by decide)) ⟨vp_in_nI hi (by omega), ?_⟩
    rw [nI_clamp (by omega)]
    refine nm_e (nm_r (nI_1 i) (ih _ ?_))
    intro r hr
    by_cases e : r = i
    · subst e; exact pk_us
    · rw [pk_un e]; exact hf r (by omega)
theorem ax_cf {post : SX → Prop} (w : ad_wf g) (hI : ad_wI g 0 a_firstRules) (hp : ∀ f, ad_wI g 8 f → post (f_tokenLimit, f_nodeLimit, (nI (ad_C g)), (nI (ad_M g)), f_compiled, (nI n), f_resultSize, f_resultError, a_altRule, a_altNumber, a_altStart, a_altEnd, a_symbols, a_input, f, a_spans, a_begun, a_symbolOf, a_altOf, a_parentOf, a_startOf, a_endOf, a_ambiguousOf, a_nextSymbol, a_stopSymbol, a_goalsOf)) : wpX_closeFirstRules post (f_tokenLimit, f_nodeLimit, (nI (ad_C g)), (nI (ad_M g)), f_compiled, (nI n), f_resultSize, f_resultError, a_altRule, a_altNumber, a_altStart, a_altEnd, a_symbols, a_input, a_firstRules, a_spans, a_begun, a_symbolOf, a_altOf, a_parentOf, a_startOf, a_endOf, a_ambiguousOf, a_nextSymbol, a_stopSymbol, a_goalsOf) := by
  refine pk_loop (fun k i f => wX_closeFirstRules_2 post f_tokenLimit f_nodeLimit (nI (ad_C g)) (nI (ad_M g)) f_compiled (nI n) f_resultSize f_resultError k (nI i) a_altRule a_altNumber a_altStart a_altEnd a_symbols a_input f a_spans a_begun a_symbolOf a_altOf a_parentOf a_startOf a_endOf a_ambiguousOf a_nextSymbol a_stopSymbol a_goalsOf) (fun i f => ad_wI g i f) 8 0 a_firstRules (by omega) hI ?_ ?_
  · intro k f hf
    exact br_t (by decide) (hp f hf)
  · intro k m f hm hf ih
    refine br_f (nI_ge (b := 8) hm (by decide)) ?_
    refine pk_loop (fun k' i f => wX_closeFirstRules_10 post (wX_closeFirstRules_2 post f_tokenLimit f_nodeLimit (nI (ad_C g)) (nI (ad_M g)) f_compiled (nI n) f_resultSize f_resultError k) (nI m) f_tokenLimit f_nodeLimit (nI (ad_C g)) (nI (ad_M g)) f_compiled (nI n) f_resultSize f_resultError k' (nI i) a_altRule a_altNumber a_altStart a_altEnd a_symbols a_input f a_spans a_begun a_symbolOf a_altOf a_parentOf a_startOf a_endOf a_ambiguousOf a_nextSymbol a_stopSymbol a_goalsOf) (fun i f' => f' = ad_ws f m i) 8 0 f (by omega) (ad_ws_0 f m).symm ?_ ?_
    · intro k' f' hf'
      subst hf'
      exact br_t (by decide) (nm_r (nI_1 m) (ih _ (ad_wI_s w hm hf)))
    · intro k' i f' hi hf' ih'
      subst hf'
      have hnext := ih' _ rfl
      have hin : vp_in (nI i) 8 := vp_in_nI hi (by omega)
      refine br_f (nI_ge (b := 8) hi (by decide)) ⟨hin, ?_⟩
      rw [nI_clamp (by omega), ad_ws_i]
      refine ax_ct (by omega) (fun hb => ?_) (fun hb => ?_)
      · refine br_f (by decide) ⟨hin, vp_in_nI hm (by omega), hin, ?_⟩
        rw [nI_clamp (by omega), ad_ws_m, ad_ws_t hb]
        exact nm_e (nm_r (nI_1 i) hnext)
      · rw [← ad_ws_f hb] at hnext
        exact br_t rfl (nm_r (nI_1 i) hnext)
theorem ax_hl {post : Int32 → SX → Prop} (h : ad_hX g a_altRule a_altStart a_altEnd a_symbols) (h1 : ∀ f, ad_lrec g → post 1 (f_tokenLimit, f_nodeLimit, (nI (ad_C g)), (nI (ad_M g)), f_compiled, (nI n), f_resultSize, f_resultError, a_altRule, a_altNumber, a_altStart, a_altEnd, a_symbols, a_input, f, a_spans, a_begun, a_symbolOf, a_altOf, a_parentOf, a_startOf, a_endOf, a_ambiguousOf, a_nextSymbol, a_stopSymbol, a_goalsOf)) (h0 : ∀ f, ¬ ad_lrec g → ad_RK g → post 0 (f_tokenLimit, f_nodeLimit, (nI (ad_C g)), (nI (ad_M g)), f_compiled, (nI n), f_resultSize, f_resultError, a_altRule, a_altNumber, a_altStart, a_altEnd, a_symbols, a_input, f, a_spans, a_begun, a_symbolOf, a_altOf, a_parentOf, a_startOf, a_endOf, a_ambiguousOf, a_nextSymbol, a_stopSymbol, a_goalsOf)) : wpX_hasLeftRecursion post (f_tokenLimit, f_nodeLimit, (nI (ad_C g)), (nI (ad_M g)), f_compiled, (nI n), f_resultSize, f_resultError, a_altRule, a_altNumber, a_altStart, a_altEnd, a_symbols, a_input, a_firstRules, a_spans, a_begun, a_symbolOf, a_altOf, a_parentOf, a_startOf, a_endOf, a_ambiguousOf, a_nextSymbol, a_stopSymbol, a_goalsOf) := by
  refine ax_ff h fun f0 hf0 => ?_
  refine ax_cf h.1 ⟨fun r q hb => (hf0 r q (ad_bw_lt h.1 hb).1).mpr hb, fun r q hr hb => ad_TC_1 ((hf0 r q hr).mp hb), fun k r q hk => absurd hk (Nat.not_lt_zero k)⟩ fun f hf => ?_
  refine pk_loop (fun k i (_ : Unit) => wX_hasLeftRecursion_10 post f_tokenLimit f_nodeLimit (nI (ad_C g)) (nI (ad_M g)) f_compiled (nI n) f_resultSize f_resultError a_altRule a_altNumber a_altStart a_altEnd a_symbols a_input f a_spans a_begun a_symbolOf a_altOf a_parentOf a_startOf a_endOf a_ambiguousOf a_nextSymbol a_stopSymbol a_goalsOf k (nI i)) (fun i _ => ∀ r, r < i → ¬ bt (f r) r = true) 8 0 () (by omega) (fun j hj => absurd hj (Nat.not_lt_zero j)) ?_ ?_
  · intro k _ hI
    have hn : ¬ ad_lrec g := fun ⟨r, hr, ht⟩ => hI r hr ((ad_wI_e h.1 hf hr).mpr ht)
    exact br_t (by decide) (h0 f hn (ad_wI_rk h.1 hf hn))
  · intro k i _ hi hI ih
    refine br_f (nI_ge (b := 8) hi (by decide)) ⟨vp_in_nI hi (by omega), ?_⟩
    rw [nI_clamp (by omega)]
    refine ax_ct (by omega) (fun hb => ?_) (fun hb => ?_)
    · exact br_f (by decide) (h1 f ⟨i, hi, (ad_wI_e h.1 hf hi).mp hb⟩)
    · refine br_t rfl (nm_r (nI_1 i) (ih () ?_))
      intro r hr
      by_cases e : r = i
      · subst e; exact hb
      · exact hI r (by omega)
theorem ax_compile {post : Int32 → SX → Prop} (h : ad_hX g a_altRule a_altStart a_altEnd a_symbols)
    (h1 : ¬ ad_df g 0 → post 1 (f_tokenLimit, f_nodeLimit, (nI (ad_C g)), (nI (ad_M g)), f_compiled, (nI n), f_resultSize, f_resultError, a_altRule, a_altNumber, a_altStart, a_altEnd, a_symbols, a_input, a_firstRules, a_spans, a_begun, a_symbolOf, a_altOf, a_parentOf, a_startOf, a_endOf, a_ambiguousOf, a_nextSymbol, a_stopSymbol, a_goalsOf)) (h2 : ad_df g 0 → ad_und g → post 2 (f_tokenLimit, f_nodeLimit, (nI (ad_C g)), (nI (ad_M g)), f_compiled, (nI n), f_resultSize, f_resultError, a_altRule, a_altNumber, a_altStart, a_altEnd, a_symbols, a_input, a_firstRules, a_spans, a_begun, a_symbolOf, a_altOf, a_parentOf, a_startOf, a_endOf, a_ambiguousOf, a_nextSymbol, a_stopSymbol, a_goalsOf)) (h3 : ad_df g 0 → ¬ ad_und g → ad_unp g → post 3 (f_tokenLimit, f_nodeLimit, (nI (ad_C g)), (nI (ad_M g)), f_compiled, (nI n), f_resultSize, f_resultError, a_altRule, a_altNumber, a_altStart, a_altEnd, a_symbols, a_input, a_firstRules, a_spans, a_begun, a_symbolOf, a_altOf, a_parentOf, a_startOf, a_endOf, a_ambiguousOf, a_nextSymbol, a_stopSymbol, a_goalsOf))
    (h4 : ∀ f, ad_df g 0 → ¬ ad_und g → ¬ ad_unp g → ad_lrec g → post 4 (f_tokenLimit, f_nodeLimit, (nI (ad_C g)), (nI (ad_M g)), f_compiled, (nI n), f_resultSize, f_resultError, a_altRule, a_altNumber, a_altStart, a_altEnd, a_symbols, a_input, f, a_spans, a_begun, a_symbolOf, a_altOf, a_parentOf, a_startOf, a_endOf, a_ambiguousOf, a_nextSymbol, a_stopSymbol, a_goalsOf))
    (h5 : ∀ f, ad_df g 0 → ¬ ad_und g → ¬ ad_unp g → ¬ ad_lrec g → ad_RK g → post 0 (f_tokenLimit, f_nodeLimit, (nI (ad_C g)), (nI (ad_M g)), 1, (nI n), f_resultSize, f_resultError, a_altRule, a_altNumber, a_altStart, a_altEnd, a_symbols, a_input, f, a_spans, a_begun, a_symbolOf, a_altOf, a_parentOf, a_startOf, a_endOf, a_ambiguousOf, a_nextSymbol, a_stopSymbol, a_goalsOf)) : wpX_compile post (f_tokenLimit, f_nodeLimit, (nI (ad_C g)), (nI (ad_M g)), f_compiled, (nI n), f_resultSize, f_resultError, a_altRule, a_altNumber, a_altStart, a_altEnd, a_symbols, a_input, a_firstRules, a_spans, a_begun, a_symbolOf, a_altOf, a_parentOf, a_startOf, a_endOf, a_ambiguousOf, a_nextSymbol, a_stopSymbol, a_goalsOf) := by
  refine ax_df h fun x hx => ?_
  refine ax_ct (i := 0) (by omega) (fun hb => ?_) (fun hb => ?_)
  · have hd := (hx 0).mp hb
    refine br_f (by decide) (ax_hu h hx (fun hu => br_f (by decide) (h2 hd hu)) (fun hu => br_t rfl ?_))
    refine ax_rm (T := true) h fun y hy => ?_
    by_cases e : y = x
    · have hn : ¬ ad_unp g := fun ⟨r, _, z1, z2⟩ => z2 ((hy r).mp (by rw [e]; exact (hx r).mpr z1))
      refine br_t e (ax_hl h (fun f hl => ?_) (fun f hl hr => ?_))
      · exact br_f (by decide) (h4 f hd hu hn hl)
      · exact br_t rfl (h5 f hd hu hn hl hr)
    · refine br_f e (h3 hd hu ?_)
      refine Classical.byContradiction fun z => e (ad_bext fun q => ?_)
      rw [hx, hy]
      exact ⟨ad_LS_df, fun hq => Classical.byContradiction fun y => z ⟨q, ad_df_8 h.1 hq, hq, y⟩⟩
  · exact br_t rfl (h1 fun hd => hb ((hx 0).mpr hd))
end
