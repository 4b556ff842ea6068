/-! ===== the relation ===== -/
def ad_R (g : ad_G) (tk : Nat → Nat) (n lim tl c : Nat) (cp hc : Int32) (aR aN aS aE aL sm tok ao po am eo yeo : Nat → Int32) : Prop :=
  ad_hX g aR aS aE sm ∧ ad_hY g aR aS aL sm ∧ ad_hI tk n tok ∧ (∀ b, b < ad_C g → aN b = nI (1 + ad_cn (fun i => decide (ad_ru g i = ad_ru g b)) b)) ∧ (n ≤ tl ∧ 1 ≤ tl ∧ tl ≤ 12 ∧ 8 ≤ lim ∧ lim ≤ 64 ∧ c ≤ 64) ∧ (hc = if ad_C g = 0 then 0 else 1) ∧
    (0 < ad_C g → ad_st g (ad_C g - 1) + ad_ln g (ad_C g - 1) = ad_M g) ∧ (cp = 0 ∨ (cp = 1 ∧ ad_RK g)) ∧ (∀ i, i < c → eo i = yeo i) ∧ (0 < c → po 0 = -1) ∧ (∀ i, am i = 0 ∨ (am i = 1 ∧ 0 < ao i))
/-- both states hold the same grammar, input and result -/
def i_Rel (_ : Nat) (u : SX) (v : SY) : Prop :=
  ∃ (g : ad_G) (tk : Nat → Nat) (n lim tl c : Nat) (f_compiled f_resultError hc yD yL : Int32) (a_altRule a_altNumber a_altStart a_altEnd a_symbols a_input a_firstRules a_spans a_begun a_symbolOf a_altOf a_parentOf a_startOf a_endOf a_ambiguousOf a_nextSymbol a_stopSymbol a_goalsOf : Nat → Int32) (aL yE en pr fl bg re yN yA yX : Nat → Int32),
    u = ((nI tl), (nI lim), (nI (ad_C g)), (nI (ad_M g)), f_compiled, (nI n), (nI c), f_resultError, a_altRule, a_altNumber, a_altStart, a_altEnd, a_symbols, a_input, a_firstRules, a_spans, a_begun, a_symbolOf, a_altOf, a_parentOf, a_startOf, a_endOf, a_ambiguousOf, a_nextSymbol, a_stopSymbol, a_goalsOf) ∧
    v = ((nI tl), (nI lim), (nI (ad_C g)), (nI (ad_M g)), hc, f_compiled, (nI n), (nI c), f_resultError, yD, yL, a_altRule, a_altStart, aL, a_symbols, a_input, a_symbolOf, a_altOf, a_parentOf, a_startOf, yE, a_ambiguousOf, en, pr, fl, bg, re, yN, yA, yX) ∧
    ad_R g tk n lim tl c f_compiled hc a_altRule a_altNumber a_altStart a_altEnd aL a_symbols a_input a_altOf a_parentOf a_ambiguousOf a_endOf yE
theorem ad_mk {k : Nat} {g : ad_G} {tk : Nat → Nat} {n lim tl c : Nat} {f_compiled f_resultError hc yD yL : Int32} {a_altRule a_altNumber a_altStart a_altEnd a_symbols a_input a_firstRules a_spans a_begun a_symbolOf a_altOf a_parentOf a_startOf a_endOf a_ambiguousOf a_nextSymbol a_stopSymbol a_goalsOf : Nat → Int32} {aL yE en pr fl bg re yN yA yX : Nat → Int32}
    (h : ad_R g tk n lim tl c f_compiled hc a_altRule a_altNumber a_altStart a_altEnd aL a_symbols a_input a_altOf a_parentOf a_ambiguousOf a_endOf yE) :
    i_Rel k ((nI tl), (nI lim), (nI (ad_C g)), (nI (ad_M g)), f_compiled, (nI n), (nI c), f_resultError, a_altRule, a_altNumber, a_altStart, a_altEnd, a_symbols, a_input, a_firstRules, a_spans, a_begun, a_symbolOf, a_altOf, a_parentOf, a_startOf, a_endOf, a_ambiguousOf, a_nextSymbol, a_stopSymbol, a_goalsOf) ((nI tl), (nI lim), (nI (ad_C g)), (nI (ad_M g)), hc, f_compiled, (nI n), (nI c), f_resultError, yD, yL, a_altRule, a_altStart, aL, a_symbols, a_input, a_symbolOf, a_altOf, a_parentOf, a_startOf, yE, a_ambiguousOf, en, pr, fl, bg, re, yN, yA, yX) :=
  ⟨g, tk, n, lim, tl, c, f_compiled, f_resultError, hc, yD, yL, a_altRule, a_altNumber, a_altStart, a_altEnd, a_symbols, a_input, a_firstRules, a_spans, a_begun, a_symbolOf, a_altOf, a_parentOf, a_startOf, a_endOf, a_ambiguousOf, a_nextSymbol, a_stopSymbol, a_goalsOf, aL, yE, en, pr, fl, bg, re, yN, yA, yX, rfl, rfl, h⟩
section
variable {g g' : ad_G} {tk tk' : Nat → Nat} {n lim tl c : Nat} {cp hc : Int32} {aR aN aS aE aL sm tok ao po am eo yeo : Nat → Int32}
theorem ad_R_begin (h : ad_R g tk n lim tl c cp hc aR aN aS aE aL sm tok ao po am eo yeo) (hC : ad_C g < 16) {r : Nat} (hr : r < 8) (eC : ad_C g' = ad_C g + 1) (eM : ad_M g' = ad_M g) (eru : ad_ru g' = ad_set (ad_ru g) (ad_C g) r) (est : ad_st g' = ad_set (ad_st g) (ad_C g) (ad_M g)) (eln : ad_ln g' = ad_set (ad_ln g) (ad_C g) 0) (esy : ad_sy g' = ad_sy g) :
    ad_R g' tk n lim tl c 0 1 (upd aR (ad_C g) (nI r)) (upd aN (ad_C g) (nI (1 + ad_cn (fun i => decide (ad_ru g i = r)) (ad_C g)))) (upd aS (ad_C g) (nI (ad_M g))) (upd aE (ad_C g) (nI (ad_M g))) (upd aL (ad_C g) 0) sm tok ao po am eo yeo := by
  obtain ⟨⟨w, h1, h2⟩, ⟨_, h3, _⟩, h4, h5, h6, h7, h8, h9, h10, h11, h12⟩ := h
  obtain ⟨w1, w2, w3, w4⟩ := w
  have w' : ad_wf g' := by
    refine ⟨by omega, by omega, ?_, ?_⟩
    · intro a ha
      rw [eru, est, eln, eM]
      by_cases e : a = ad_C g
      · subst e; rw [ad_set_s, ad_set_s, ad_set_s]; omega
      · rw [ad_set_n e, ad_set_n e, ad_set_n e]; exact w3 a (by omega)
    · rw [eM, esy]; exact w4
  refine ⟨⟨w', ?_, ?_⟩, ⟨w', ?_, ?_⟩, h4, ?_, h6, ?_, ?_, Or.inl rfl, h10, h11, h12⟩
  · intro a ha
    rw [eru, est, eln]
    by_cases e : a = ad_C g
    · subst e; rw [ad_set_s, ad_set_s, ad_set_s, pk_us, pk_us, pk_us]; exact ⟨rfl, rfl, rfl⟩
    · rw [ad_set_n e, ad_set_n e, ad_set_n e, pk_un e, pk_un e, pk_un e]; exact h1 a (by omega)
  · rw [eM, esy]; exact h2
  · intro a ha
    rw [eru, est, eln]
    by_cases e : a = ad_C g
    · subst e; rw [ad_set_s, ad_set_s, ad_set_s, pk_us, pk_us, pk_us]; exact ⟨rfl, rfl, rfl⟩
    · rw [ad_set_n e, ad_set_n e, ad_set_n e, pk_un e, pk_un e, pk_un e]; exact h3 a (by omega)
  · rw [eM, esy]; exact h2
  · intro b hb
    rw [eru]
    by_cases e : b = ad_C g
    · subst e
      rw [pk_us, ad_set_s, ad_cn_eq (P := fun i => decide (ad_ru g i = r)) (Q := fun i => decide (ad_set (ad_ru g) (ad_C g) r i = r)) (ad_C g) fun i hi => by rw [ad_set_n (by omega)]]
    · rw [pk_un e, ad_set_n e, h5 b (by omega), ad_cn_eq (P := fun i => decide (ad_ru g i = ad_ru g b)) (Q := fun i => decide (ad_set (ad_ru g) (ad_C g) r i = ad_ru g b)) b fun i hi => by rw [ad_set_n (by omega)]]
  · rw [eC, if_neg (Nat.succ_ne_zero _)]
  · intro _
    rw [eC, est, eln, eM, Nat.add_sub_cancel, ad_set_s, ad_set_s]
    rfl
theorem ad_R_app (h : ad_R g tk n lim tl c cp hc aR aN aS aE aL sm tok ao po am eo yeo) (hC : 0 < ad_C g) (hM : ad_M g < 48) {s : Nat} (hs : s < 24) (eC : ad_C g' = ad_C g) (eM : ad_M g' = ad_M g + 1) (eru : ad_ru g' = ad_ru g) (est : ad_st g' = ad_st g) (eln : ad_ln g' = ad_set (ad_ln g) (ad_C g - 1) (ad_ln g (ad_C g - 1) + 1)) (esy : ad_sy g' = ad_set (ad_sy g) (ad_M g) s) :
    ad_R g' tk n lim tl c 0 hc aR aN aS (upd aE (ad_C g - 1) (nI (ad_M g + 1))) (upd aL (ad_C g - 1) (nI (ad_ln g (ad_C g - 1) + 1))) (upd sm (ad_M g) (nI s)) tok ao po am eo yeo := by
  obtain ⟨⟨w, h1, h2⟩, ⟨_, h3, _⟩, h4, h5, h6, h7, h8, h9, h10, h11, h12⟩ := h
  obtain ⟨w1, w2, w3, w4⟩ := w
  have h8 := h8 hC
  have w' : ad_wf g' := by
    refine ⟨by omega, by omega, ?_, ?_⟩
    · intro a ha
      rw [eru, est, eln, eM]
      have := w3 a (by omega)
      by_cases e : a = ad_C g - 1
      · subst e; rw [ad_set_s]; omega
      · rw [ad_set_n e]; omega
    · intro i hi
      rw [esy]
      by_cases e : i = ad_M g
      · subst e; rw [ad_set_s]; exact hs
      · rw [ad_set_n e]; exact w4 i (by omega)
  have hsm : ∀ i, i < ad_M g' → upd sm (ad_M g) (nI s) i = nI (ad_sy g' i) := by
    intro i hi
    rw [esy]
    by_cases e : i = ad_M g
    · subst e; rw [ad_set_s, pk_us]
    · rw [ad_set_n e, pk_un e]; exact h2 i (by omega)
  refine ⟨⟨w', ?_, hsm⟩, ⟨w', ?_, hsm⟩, h4, ?_, h6, ?_, ?_, Or.inl rfl, h10, h11, h12⟩
  · intro a ha
    rw [eru, est, eln]
    obtain ⟨z1, z2, z3⟩ := h1 a (by omega)
    by_cases e : a = ad_C g - 1
    · subst e; rw [ad_set_s, pk_us]; exact ⟨z1, z2, congrArg nI (by omega)⟩
    · rw [ad_set_n e, pk_un e]; exact ⟨z1, z2, z3⟩
  · intro a ha
    rw [eru, est, eln]
    obtain ⟨z1, z2, z3⟩ := h3 a (by omega)
    by_cases e : a = ad_C g - 1
    · subst e; rw [ad_set_s, pk_us]; exact ⟨z1, z2, rfl⟩
    · rw [ad_set_n e, pk_un e]; exact ⟨z1, z2, z3⟩
  · rw [eC, eru]; exact h5
  · rw [eC]; exact h7
  · intro _
    rw [eC, est, eln, eM, ad_set_s]
    omega
theorem ad_R_tok (h : ad_R g tk n lim tl c cp hc aR aN aS aE aL sm tok ao po am eo yeo) (hn : n < tl) {t : Nat} (ht : t < 16) :
    ad_R g (ad_set tk n t) (n + 1) lim tl c cp hc aR aN aS aE aL sm (upd tok n (nI t)) ao po am eo yeo := by
  obtain ⟨h1, h2, h4, h5, h6, h7⟩ := h
  refine ⟨h1, h2, ⟨by omega, ?_⟩, h5, by omega, h7⟩
  intro i hi
  by_cases e : i = n
  · subst e; rw [ad_set_s, pk_us]; exact ⟨ht, rfl⟩
  · rw [ad_set_n e, pk_un e]; exact h4.2 i (by omega)
end
/-! ===== numbers out of range ===== -/
theorem ad_big {x : Int32} {m : Nat} (hm : m + 1 < 2 ^ 31) (h : nI (m + 1) ≤ x) : ¬ x < 0 ∧ ¬ x ≤ nI m ∧ nI m < x := by
  rw [Int32.le_iff_toInt_le, nI_toInt hm] at h
  rw [Int32.lt_iff_toInt_lt, Int32.le_iff_toInt_le, Int32.lt_iff_toInt_lt, nI_toInt (by omega), show (0 : Int32).toInt = 0 from by decide]
  omega
theorem ad_cl (lo hi : Nat) (hl : lo ≤ hi) (hh : hi < 2 ^ 31) (x : Int32) : ∃ t, lo ≤ t ∧ t ≤ hi ∧ ∀ P : Int32 → Prop, P (nI t) → ((nI lo ≤ x → ((x ≤ nI hi → P x) ∧ (¬ x ≤ nI hi → P (nI hi)))) ∧ (¬ nI lo ≤ x → P (nI lo))) := by
  by_cases h1 : nI lo ≤ x
  · by_cases h2 : x ≤ nI hi
    · have h0 : ¬ x < 0 := by
        rw [Int32.le_iff_toInt_le, nI_toInt (by omega)] at h1
        rw [Int32.lt_iff_toInt_lt, show (0 : Int32).toInt = 0 from by decide]
        omega
      obtain ⟨j, hj, rfl⟩ := nI_of h0
      rw [nI_leI (by omega) hj] at h1
      rw [nI_leI hj hh] at h2
      refine ⟨j, h1, h2, fun P hp => br_t (nI_le h1 hj) (br_t (nI_le h2 hh) hp)⟩
    · exact ⟨hi, hl, Nat.le_refl hi, fun P hp => br_t h1 (br_f h2 hp)⟩
  · exact ⟨lo, Nat.le_refl lo, hl, fun P hp => br_f h1 hp⟩
