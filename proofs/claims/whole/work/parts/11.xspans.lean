/-! ===== the component: spans ===== -/
theorem ad_1613 (r p : Nat) : (16 + nI r) * 13 + nI p = nI ((16 + r) * 13 + p) := by
  show (nI 16 + nI r) * nI 13 + nI p = _
  rw [nI_add, pk_mul, nI_add]
theorem ad_xI_0 {g : ad_G} {tk : Nat → Nat} {n : Nat} (ht : ∀ i, i < n → tk i < 16) (hn : n ≤ 12) {sp : Nat → Int32} (h : ∀ s p, s < 24 → p ≤ 12 → sp (s * 13 + p) = (if p < n ∧ tk p = s then (1 : Int32) <<< (nI (p + 1) &&& 31) else 0)) : ad_xI g tk n (n + 1) sp := by
  refine ⟨?_, ?_, fun p h1 h2 => absurd h1 (by omega)⟩
  · intro s p q hs hp
    rw [h s p (by omega) (by omega)]
    by_cases hc : p < n ∧ tk p = s
    · rw [if_pos hc, ad_bit (by omega)]
      exact ⟨fun z => ⟨hc.1, hc.2, z⟩, fun z => z.2.2⟩
    · rw [if_neg hc, b_0]
      exact ⟨fun z => (nomatch z), fun z => absurd ⟨z.1, z.2.1⟩ hc⟩
  · intro r p q hr hp hb
    rw [h (16 + r) p (by omega) (by omega), if_neg, b_0] at hb
    · exact (nomatch hb)
    · intro z
      have := ht p z.1
      omega
section
variable {f_tokenLimit f_nodeLimit f_altCount f_symbolCount f_compiled f_inputLength f_resultSize f_resultError : Int32} {a_altRule a_altNumber a_altStart a_altEnd a_symbols a_input a_firstRules a_spans a_begun a_symbolOf a_altOf a_parentOf a_startOf a_endOf a_ambiguousOf a_nextSymbol a_stopSymbol a_goalsOf : Nat → Int32}
variable {g : ad_G} {tk : Nat → Nat} {n : Nat}
theorem ax_fs1 {post : SX → Prop} {P : Nat} {rk : Nat → Nat} (h : ad_hX g a_altRule a_altStart a_altEnd a_symbols) (hn : n ≤ 12) (hk : ∀ r, r < 8 → rk r < 8) (hr : ∀ r q, ad_bw g r q → rk q < rk r) (hP : P ≤ n) (hI : ad_xI g tk n (P + 1) a_spans) (hp : ∀ sp, ad_xI g tk n P sp → post (f_tokenLimit, f_nodeLimit, (nI (ad_C g)), (nI (ad_M g)), f_compiled, (nI n), f_resultSize, f_resultError, a_altRule, a_altNumber, a_altStart, a_altEnd, a_symbols, a_input, a_firstRules, sp, a_begun, a_symbolOf, a_altOf, a_parentOf, a_startOf, a_endOf, a_ambiguousOf, a_nextSymbol, a_stopSymbol, a_goalsOf)) : wpX_findRuleSpansFrom post (f_tokenLimit, f_nodeLimit, (nI (ad_C g)), (nI (ad_M g)), f_compiled, (nI n), f_resultSize, f_resultError, a_altRule, a_altNumber, a_altStart, a_altEnd, a_symbols, a_input, a_firstRules, a_spans, a_begun, a_symbolOf, a_altOf, a_parentOf, a_startOf, a_endOf, a_ambiguousOf, a_nextSymbol, a_stopSymbol, a_goalsOf) (nI P) := by
  have hC := h.1.1
  refine pk_loop (fun k j sp => wX_findRuleSpansFrom_2 post (nI P) f_tokenLimit f_nodeLimit (nI (ad_C g)) (nI (ad_M g)) f_compiled (nI n) f_resultSize f_resultError k (nI j) a_altRule a_altNumber a_altStart a_altEnd a_symbols a_input a_firstRules sp a_begun a_symbolOf a_altOf a_parentOf a_startOf a_endOf a_ambiguousOf a_nextSymbol a_stopSymbol a_goalsOf) (fun j sp => ad_xJ g tk n rk P j 0 sp) 8 0 a_spans (by omega) (ad_xJ_0 hI) ?_ ?_
  · intro k sp hs
    exact br_t (by decide) (hp sp (ad_xJ_e hk hs))
  · intro k j sp hj hs ih
    refine br_f (nI_ge (b := 8) hj (by decide)) ?_
    refine pk_loop (fun k' a sp => wX_findRuleSpansFrom_10 post (wX_findRuleSpansFrom_2 post (nI P) f_tokenLimit f_nodeLimit (nI (ad_C g)) (nI (ad_M g)) f_compiled (nI n) f_resultSize f_resultError k) (nI P) (nI j) f_tokenLimit f_nodeLimit (nI (ad_C g)) (nI (ad_M g)) f_compiled (nI n) f_resultSize f_resultError k' (nI a) a_altRule a_altNumber a_altStart a_altEnd a_symbols a_input a_firstRules sp a_begun a_symbolOf a_altOf a_parentOf a_startOf a_endOf a_ambiguousOf a_nextSymbol a_stopSymbol a_goalsOf) (fun a sp => ad_xJ g tk n rk P j a sp) (ad_C g) 0 sp (by omega) hs ?_ ?_
    · intro k' sp hs
      exact br_t (nI_le (by omega) (by omega)) (nm_r (nI_1 j) (ih sp (ad_xJ_r hs)))
    · intro k' a sp ha hs ih'
      obtain ⟨e1, e2, e3, hin, h8, h48, h16⟩ := ad_hX_a h ha
      refine br_f (nI_ge (by omega) (by omega)) (ax_ea h hn ha ⟨hin, ?_⟩)
      rw [e1, ad_1613, nI_clamp (by omega)]
      have hin2 : vp_in (nI ((16 + ad_ru g a) * 13 + P)) 312 := vp_in_nI (by omega) (by omega)
      exact ⟨hin2, hin2, nm_e (nm_r (nI_1 a) (ih' _ (ad_xJ_s h.1 hn hr hP ha hs)))⟩
theorem ax_fs {post : SX → Prop} (h : ad_hX g a_altRule a_altStart a_altEnd a_symbols) (hi : ad_hI tk n a_input) (hR : ad_RK g) (hp : ∀ sp, ad_ex g tk n (ad_cX sp) → post (f_tokenLimit, f_nodeLimit, (nI (ad_C g)), (nI (ad_M g)), f_compiled, (nI n), f_resultSize, f_resultError, a_altRule, a_altNumber, a_altStart, a_altEnd, a_symbols, a_input, a_firstRules, sp, a_begun, a_symbolOf, a_altOf, a_parentOf, a_startOf, a_endOf, a_ambiguousOf, a_nextSymbol, a_stopSymbol, a_goalsOf)) : wpX_findSpans post (f_tokenLimit, f_nodeLimit, (nI (ad_C g)), (nI (ad_M g)), f_compiled, (nI n), f_resultSize, f_resultError, a_altRule, a_altNumber, a_altStart, a_altEnd, a_symbols, a_input, a_firstRules, a_spans, a_begun, a_symbolOf, a_altOf, a_parentOf, a_startOf, a_endOf, a_ambiguousOf, a_nextSymbol, a_stopSymbol, a_goalsOf) := by
  obtain ⟨rk, hk, hr⟩ := hR
  have hn := hi.1
  refine pk_loop (fun k i sp => wX_findSpans_2 post f_tokenLimit f_nodeLimit (nI (ad_C g)) (nI (ad_M g)) f_compiled (nI n) f_resultSize f_resultError k (nI i) a_altRule a_altNumber a_altStart a_altEnd a_symbols a_input a_firstRules sp a_begun a_symbolOf a_altOf a_parentOf a_startOf a_endOf a_ambiguousOf a_nextSymbol a_stopSymbol a_goalsOf) (fun i sp => ∀ t, t < i → sp t = 0) 312 0 a_spans (by omega) (fun t ht => absurd ht (Nat.not_lt_zero t)) ?_ ?_
  · intro k sp hs
    refine br_t (by decide) ?_
    refine pk_loop (fun k i sp => wX_findSpans_24 post f_tokenLimit f_nodeLimit (nI (ad_C g)) (nI (ad_M g)) f_compiled (nI n) f_resultSize f_resultError k (nI i) a_altRule a_altNumber a_altStart a_altEnd a_symbols a_input a_firstRules sp a_begun a_symbolOf a_altOf a_parentOf a_startOf a_endOf a_ambiguousOf a_nextSymbol a_stopSymbol a_goalsOf) (fun i sp => ∀ s p, s < 24 → p ≤ 12 → sp (s * 13 + p) = (if p < i ∧ tk p = s then (1 : Int32) <<< (nI (p + 1) &&& 31) else 0)) n 0 sp (by omega) ?_ ?_ ?_
    · intro s p h1 h2
      rw [hs _ (by omega), if_neg (by omega)]
    · intro k sp hs
      refine br_t (nI_le (by omega) (by omega)) ⟨n + 2, ?_⟩
      have key := pk_loopD (fun k r sp => wX_findSpans_64 post k (nI r - 1) f_tokenLimit f_nodeLimit (nI (ad_C g)) (nI (ad_M g)) f_compiled (nI n) f_resultSize f_resultError a_altRule a_altNumber a_altStart a_altEnd a_symbols a_input a_firstRules sp a_begun a_symbolOf a_altOf a_parentOf a_startOf a_endOf a_ambiguousOf a_nextSymbol a_stopSymbol a_goalsOf) (fun r sp => ad_xI g tk n r sp ∧ r ≤ n + 1) ?_ ?_ (n + 1) sp ⟨ad_xI_0 (fun i hi' => (hi.2 i hi').1) hn hs, by omega⟩
      · have key : wX_findSpans_64 post (n + 1 + 1) (nI (n + 1) - 1) f_tokenLimit f_nodeLimit (nI (ad_C g)) (nI (ad_M g)) f_compiled (nI n) f_resultSize f_resultError a_altRule a_altNumber a_altStart a_altEnd a_symbols a_input a_firstRules sp a_begun a_symbolOf a_altOf a_parentOf a_startOf a_endOf a_ambiguousOf a_nextSymbol a_stopSymbol a_goalsOf := key
        rw [nI_pred] at key
        exact key
      · intro k sp hs
        exact br_t (by decide) (hp sp (ad_x_ex hs.1))
      · intro k r sp hs ih
        show wX_findSpans_64 post (k + 1) (nI (r + 1) - 1) f_tokenLimit f_nodeLimit (nI (ad_C g)) (nI (ad_M g)) f_compiled (nI n) f_resultSize f_resultError a_altRule a_altNumber a_altStart a_altEnd a_symbols a_input a_firstRules sp a_begun a_symbolOf a_altOf a_parentOf a_startOf a_endOf a_ambiguousOf a_nextSymbol a_stopSymbol a_goalsOf
        rw [nI_pred]
        refine br_f (nI_pos (by omega)) (ax_fs1 h hn hk hr (by omega) hs.1 fun sp' hs' => nm_r (ad_m1s _) (ih sp' ⟨hs', by omega⟩))
    · intro k i sp hi' hs ih
      obtain ⟨t1, t2⟩ := hi.2 i hi'
      refine br_f (nI_ge (by omega) (by omega)) ⟨vp_in_nI (by omega) (by omega), ?_⟩
      rw [nI_clamp (by omega), t2, ad_13, nI_clamp (by omega), nI_1]
      refine ⟨vp_in_nI (by omega) (by omega), nm_e (nm_e (ih _ ?_))⟩
      intro s p hs1 hp1
      by_cases e : s * 13 + p = tk i * 13 + i
      · have e1 : p = i := by omega
        have e2 : s = tk i := by omega
        subst e1 e2
        rw [pk_us, if_pos ⟨by omega, rfl⟩]
      · rw [pk_un e, hs s p hs1 hp1]
        by_cases c : p < i ∧ tk p = s
        · rw [if_pos c, if_pos ⟨by omega, c.2⟩]
        · rw [if_neg c, if_neg]
          intro z
          have z1 := z.1
          have z2 := z.2
          by_cases c1 : p = i
          · subst c1 z2; exact e rfl
          · exact c ⟨by omega, z2⟩
  · intro k i sp hi' hs ih
    refine br_f (nI_ge (b := 312) hi' (by decide)) ⟨vp_in_nI hi' (by omega), ?_⟩
    rw [nI_clamp (by omega)]
    refine nm_e (nm_r (nI_1 i) (ih _ ?_))
    intro r hr
    by_cases e : r = i
    · subst e; exact pk_us
    · rw [pk_un e]; exact hs r (by omega)
end
