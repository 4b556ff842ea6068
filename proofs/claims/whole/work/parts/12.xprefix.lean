/-! ===== the component: how far ===== -/
section
variable {f_tokenLimit f_nodeLimit f_altCount f_symbolCount f_compiled f_inputLength f_resultSize f_resultError : Int32} {a_altRule a_altNumber a_altStart a_altEnd a_symbols a_input a_firstRules a_spans a_begun a_symbolOf a_altOf a_parentOf a_startOf a_endOf a_ambiguousOf a_nextSymbol a_stopSymbol a_goalsOf : Nat → Int32}
variable {g : ad_G} {tk : Nat → Nat} {n : Nat}
theorem ax_ra {post : Int32 → SX → Prop} {a : Nat} (h : ad_hX g a_altRule a_altStart a_altEnd a_symbols) (hn : n ≤ 12) (ha : a < ad_C g) (hex : ad_ex g tk n (ad_cX a_spans))
    (hp : ∀ B' ret, ad_rdB g tk n a (ad_ln g a) a_begun B' → ad_rdR g tk n a (ad_ln g a) a_begun ret → post ret (f_tokenLimit, f_nodeLimit, (nI (ad_C g)), (nI (ad_M g)), f_compiled, (nI n), f_resultSize, f_resultError, a_altRule, a_altNumber, a_altStart, a_altEnd, a_symbols, a_input, a_firstRules, a_spans, B', a_symbolOf, a_altOf, a_parentOf, a_startOf, a_endOf, a_ambiguousOf, a_nextSymbol, a_stopSymbol, a_goalsOf)) : wpX_readAlt post (f_tokenLimit, f_nodeLimit, (nI (ad_C g)), (nI (ad_M g)), f_compiled, (nI n), f_resultSize, f_resultError, a_altRule, a_altNumber, a_altStart, a_altEnd, a_symbols, a_input, a_firstRules, a_spans, a_begun, a_symbolOf, a_altOf, a_parentOf, a_startOf, a_endOf, a_ambiguousOf, a_nextSymbol, a_stopSymbol, a_goalsOf) (nI a) := by
  obtain ⟨e1, e2, e3, hin, h8, h48, h16⟩ := ad_hX_a h ha
  have hae : ∀ d q, d ≤ ad_ln g a → (bt (ad_ae n (ad_cX a_spans) (ad_sy g) (ad_st g a) d (a_begun (ad_ru g a))) q = true ↔ ∃ p, bt (a_begun (ad_ru g a)) p = true ∧ ad_at g tk n a d p q) := by
    intro d q hd
    rw [ad_ae_b]
    exact ⟨fun ⟨p, z1, z2⟩ => ⟨p, z1, (ad_ex_ch h.1 hex ha (by omega) (by omega) p q).mp z2⟩, fun ⟨p, z1, z2⟩ => ⟨p, z1, (ad_ex_ch h.1 hex ha (by omega) (by omega) p q).mpr z2⟩⟩
  refine ⟨hin, ?_⟩
  rw [e1, nI_clamp (by omega)]
  refine ⟨vp_in_nI h8 (by omega), nm_e ⟨hin, nm_r e2 ?_⟩⟩
  refine lp3 (fun k d x3 B => wX_readAlt_22 post (nI a) f_tokenLimit f_nodeLimit (nI (ad_C g)) (nI (ad_M g)) f_compiled (nI n) f_resultSize f_resultError k (ad_ae n (ad_cX a_spans) (ad_sy g) (ad_st g a) d (a_begun (ad_ru g a))) x3 (nI (ad_st g a + d)) a_altRule a_altNumber a_altStart a_altEnd a_symbols a_input a_firstRules a_spans B a_symbolOf a_altOf a_parentOf a_startOf a_endOf a_ambiguousOf a_nextSymbol a_stopSymbol a_goalsOf) (fun d x3 B => d ≤ ad_ln g a ∧ ad_rdB g tk n a d a_begun B ∧ ad_rdR g tk n a d a_begun x3) (fun d _ _ => ad_ln g a - d) ?_ 0 (a_begun (ad_ru g a)) a_begun ?_
  · intro k d x3 B ⟨hd, hB, hR⟩ ih
    by_cases hdl : d = ad_ln g a
    · subst hdl
      refine ⟨hin, br_t ?_ (hp B x3 hB hR)⟩
      rw [e3]
      exact nI_le (by omega) (by omega)
    · have hd : d < ad_ln g a := by omega
      obtain ⟨s1, s2, s3, s4⟩ := ad_hX_k h ha hd
      have hR' : ad_rdR g tk n a (d + 1) a_begun (x3 ||| ad_ae n (ad_cX a_spans) (ad_sy g) (ad_st g a) (d + 1) (a_begun (ad_ru g a))) := by
        intro q
        rw [ad_orb, hR q, hae (d + 1) q (by omega)]
        constructor
        · intro z
          rcases z with ⟨k, p, z1, z2⟩ | ⟨p, z1, z2⟩
          · exact ⟨k, p, by omega, z2⟩
          · exact ⟨d + 1, p, by omega, z1, z2⟩
        · intro ⟨k, p, z1, z2, z3⟩
          by_cases e : k = d + 1
          · subst e; exact Or.inr ⟨p, z2, z3⟩
          · exact Or.inl ⟨k, p, by omega, z2, z3⟩
      refine ⟨hin, br_f ?_ ⟨s2, ?_⟩⟩
      · rw [e3]
        exact nI_ge (by omega) (by omega)
      rw [s1]
      refine pk_lt (ad_sy g (ad_st g a + d)) 16 (fun z => ?_) (fun z => ?_)
      · refine ⟨s2, ?_⟩
        rw [s1]
        refine ax_pa hn s3 (nm_e (nm_r (nI_1 _) (ih (d + 1) _ B ⟨by omega, ?_, hR'⟩ (by omega))))
        intro r m hr
        rw [hB r m hr]
        constructor
        · intro y
          rcases y with y | ⟨k, p, y1, y2⟩
          · exact Or.inl y
          · exact Or.inr ⟨k, p, by omega, y2⟩
        · intro y
          rcases y with y | ⟨k, p, y1, y2, y3, y4⟩
          · exact Or.inl y
          · by_cases e : k = d
            · subst e; omega
            · exact Or.inr ⟨k, p, by omega, y2, y3, y4⟩
      · rw [ad_16 z, nI_clamp (by omega)]
        have hin8 : vp_in (nI (ad_sy g (ad_st g a + d) - 16)) 8 := vp_in_nI (by omega) (by omega)
        refine ⟨s2, hin8, hin8, nm_e ⟨s2, ?_⟩⟩
        rw [s1]
        refine ax_pa hn s3 (nm_e (nm_r (nI_1 _) (ih (d + 1) _ _ ⟨by omega, ?_, hR'⟩ (by omega))))
        intro r m hr
        by_cases er : r = ad_sy g (ad_st g a + d) - 16
        · subst er
          rw [pk_us, ad_orb, hB _ m hr, hae d m (by omega)]
          constructor
          · intro y
            rcases y with (y | ⟨k, p, y1, y2⟩) | ⟨p, y1, y2⟩
            · exact Or.inl y
            · exact Or.inr ⟨k, p, by omega, y2⟩
            · exact Or.inr ⟨d, p, by omega, y1, y2, by omega⟩
          · intro y
            rcases y with y | ⟨k, p, y1, y2, y3, y4⟩
            · exact Or.inl (Or.inl y)
            · by_cases e : k = d
              · subst e; exact Or.inr ⟨p, y2, y3⟩
              · exact Or.inl (Or.inr ⟨k, p, by omega, y2, y3, y4⟩)
        · rw [pk_un er, hB r m hr]
          constructor
          · intro y
            rcases y with y | ⟨k, p, y1, y2⟩
            · exact Or.inl y
            · exact Or.inr ⟨k, p, by omega, y2⟩
          · intro y
            rcases y with y | ⟨k, p, y1, y2, y3, y4⟩
            · exact Or.inl y
            · by_cases e : k = d
              · subst e; omega
              · exact Or.inr ⟨k, p, by omega, y2, y3, y4⟩
  · refine ⟨by omega, ?_, ?_⟩
    · intro r m hr
      exact ⟨Or.inl, fun y => y.elim id (fun ⟨k, p, y1, _⟩ => absurd y1 (Nat.not_lt_zero k))⟩
    · intro q
      constructor
      · intro y
        exact ⟨0, q, by omega, y, rfl⟩
      · intro ⟨k, p, y1, y2, y3⟩
        have ek : k = 0 := by omega
        subst ek
        have e : p = q := y3
        subst e
        exact y2
theorem ax_mx {post : Int32 → SX → Prop} {R : Int32} (hn : n ≤ 12) (hp : post (nI (ad_mx (fun i => bt R i) (n + 1))) (f_tokenLimit, f_nodeLimit, (nI (ad_C g)), (nI (ad_M g)), f_compiled, (nI n), f_resultSize, f_resultError, a_altRule, a_altNumber, a_altStart, a_altEnd, a_symbols, a_input, a_firstRules, a_spans, a_begun, a_symbolOf, a_altOf, a_parentOf, a_startOf, a_endOf, a_ambiguousOf, a_nextSymbol, a_stopSymbol, a_goalsOf)) : ∃ k, wX_viablePrefixLength_72 post R f_tokenLimit f_nodeLimit (nI (ad_C g)) (nI (ad_M g)) f_compiled (nI n) f_resultSize f_resultError a_altRule a_altNumber a_altStart a_altEnd a_symbols a_input a_firstRules a_spans a_begun a_symbolOf a_altOf a_parentOf a_startOf a_endOf a_ambiguousOf a_nextSymbol a_stopSymbol a_goalsOf k 0 0 := by
  refine pk_loop (fun k i x => wX_viablePrefixLength_72 post R f_tokenLimit f_nodeLimit (nI (ad_C g)) (nI (ad_M g)) f_compiled (nI n) f_resultSize f_resultError a_altRule a_altNumber a_altStart a_altEnd a_symbols a_input a_firstRules a_spans a_begun a_symbolOf a_altOf a_parentOf a_startOf a_endOf a_ambiguousOf a_nextSymbol a_stopSymbol a_goalsOf k x (nI i)) (fun i x => x = nI (ad_mx (fun i => bt R i) i)) (n + 1) 0 0 (by omega) rfl ?_ ?_
  · intro k x hx
    subst hx
    exact br_t (nI_lt (by omega) (by omega)) hp
  · intro k i x hi hx ih
    subst hx
    have hnext := ih _ rfl
    refine br_f (nI_nlt (by omega) (by omega)) (ax_ct (by omega) (fun hb => ?_) (fun hb => ?_))
    · have e : ad_mx (fun i => bt R i) (i + 1) = i := if_pos hb
      rw [e] at hnext
      exact br_f (by decide) (nm_r (nI_1 i) hnext)
    · have e : ad_mx (fun i => bt R i) (i + 1) = ad_mx (fun i => bt R i) i := if_neg hb
      rw [e] at hnext
      exact br_t rfl (nm_r (nI_1 i) hnext)
theorem ax_vp {post : Int32 → SX → Prop} (h : ad_hX g a_altRule a_altStart a_altEnd a_symbols) (hn : n ≤ 12) (hex : ad_ex g tk n (ad_cX a_spans))
    (hp : ∀ B R, (∀ q, 0 < q → (bt R q = true ↔ ad_PR g tk n 0 0 q)) → post (nI (ad_mx (fun i => bt R i) (n + 1))) (f_tokenLimit, f_nodeLimit, (nI (ad_C g)), (nI (ad_M g)), f_compiled, (nI n), f_resultSize, f_resultError, a_altRule, a_altNumber, a_altStart, a_altEnd, a_symbols, a_input, a_firstRules, a_spans, B, a_symbolOf, a_altOf, a_parentOf, a_startOf, a_endOf, a_ambiguousOf, a_nextSymbol, a_stopSymbol, a_goalsOf)) : wpX_viablePrefixLength post (f_tokenLimit, f_nodeLimit, (nI (ad_C g)), (nI (ad_M g)), f_compiled, (nI n), f_resultSize, f_resultError, a_altRule, a_altNumber, a_altStart, a_altEnd, a_symbols, a_input, a_firstRules, a_spans, a_begun, a_symbolOf, a_altOf, a_parentOf, a_startOf, a_endOf, a_ambiguousOf, a_nextSymbol, a_stopSymbol, a_goalsOf) := by
  have hC := h.1.1
  refine pk_loop (fun k i B => wX_viablePrefixLength_2 post f_tokenLimit f_nodeLimit (nI (ad_C g)) (nI (ad_M g)) f_compiled (nI n) f_resultSize f_resultError k (nI i) a_altRule a_altNumber a_altStart a_altEnd a_symbols a_input a_firstRules a_spans B a_symbolOf a_altOf a_parentOf a_startOf a_endOf a_ambiguousOf a_nextSymbol a_stopSymbol a_goalsOf) (fun i B => ∀ r, r < i → B r = 0) 8 0 a_begun (by omega) (fun t ht => absurd ht (Nat.not_lt_zero t)) ?_ ?_
  · intro k B0 hB0
    refine br_t (by decide) (nm_e ?_)
    refine lp3 (fun k j R B => wX_viablePrefixLength_32 post k R (nI j) f_tokenLimit f_nodeLimit (nI (ad_C g)) (nI (ad_M g)) f_compiled (nI n) f_resultSize f_resultError a_altRule a_altNumber a_altStart a_altEnd a_symbols a_input a_firstRules a_spans B a_symbolOf a_altOf a_parentOf a_startOf a_endOf a_ambiguousOf a_nextSymbol a_stopSymbol a_goalsOf) (fun j R B => j ≤ 104 ∧ ad_vS g tk n B ∧ ad_vR g tk n R ∧ bt (B 0) 0 = true ∧ ad_rout (ad_vd g tk n B R) (1 + j) (ad_mu B 104)) (fun j _ _ => 104 - j) ?_ 0 1 _ ?_
    · intro k j R B ⟨hj, hS, hR, h0, hI⟩ ih
      by_cases hj4 : j = 104
      · subst hj4
        have hd : ad_vd g tk n B R := by
          rcases hI with z | z
          · exact z
          · have := ad_mu_le B 104; omega
        exact br_t (by decide) (ax_mx hn (hp B R (ad_v_end h.1 h0 hd hR)))
      · refine br_f (nI_ge (b := 104) (by omega) (by decide)) ?_
        refine lp3 (fun k' a R B => wX_viablePrefixLength_40 post (wX_viablePrefixLength_32 post k) (nI j) k' R (nI a) f_tokenLimit f_nodeLimit (nI (ad_C g)) (nI (ad_M g)) f_compiled (nI n) f_resultSize f_resultError a_altRule a_altNumber a_altStart a_altEnd a_symbols a_input a_firstRules a_spans B a_symbolOf a_altOf a_parentOf a_startOf a_endOf a_ambiguousOf a_nextSymbol a_stopSymbol a_goalsOf) (fun a R B => a ≤ ad_C g ∧ ad_vS g tk n B ∧ ad_vR g tk n R ∧ bt (B 0) 0 = true ∧ ad_rin (ad_vf g tk n B R) (ad_vd g tk n B R) (1 + j) (ad_mu B 104) a) (fun a _ _ => ad_C g - a) ?_ 0 R B ⟨by omega, hS, hR, h0, ad_rin_0 hI⟩
        intro k' a R B ⟨hac, hS, hR, h0, hI⟩ ih'
        by_cases hae : a = ad_C g
        · subst hae
          exact br_t (nI_le (by omega) (by omega)) (nm_r (nI_1 j) (ih (j + 1) R B ⟨by omega, hS, hR, h0, ad_rin_e (fun z => z) hI⟩ (by omega)))
        · have ha : a < ad_C g := by omega
          refine br_f (nI_ge (by omega) (by omega)) (ax_ra h hn ha hex fun B' ret hB hr => ?_)
          obtain ⟨z1, z2, z3, z4⟩ := ad_v_step h.1 hn ha hS hR h0 hB hr hI
          exact nm_e (nm_r (nI_1 a) (ih' (a + 1) _ B' ⟨by omega, z1, z2, z3, z4⟩ (by omega)))
    · refine ⟨by omega, ?_, ?_, ?_, Or.inr ?_⟩
      · intro r p hr hb
        by_cases e : r = 0
        · subst e
          rw [pk_us, ad_one, decide_eq_true_iff] at hb
          subst hb
          exact ⟨by omega, fun q hq => hq⟩
        · rw [pk_un e, hB0 r (by omega), b_0] at hb
          exact (nomatch hb)
      · intro q hb
        rw [ad_one, decide_eq_true_iff] at hb
        exact Or.inl hb
      · rw [pk_us, ad_one]
        rfl
      · refine ad_cn_pos 104 0 (by omega) ?_
        show bt (upd B0 0 1 0) 0 = true
        rw [pk_us, ad_one]
        rfl
  · intro k i B hi' hB ih
    refine br_f (nI_ge (b := 8) hi' (by decide)) ⟨vp_in_nI hi' (by omega), ?_⟩
    rw [nI_clamp (by omega)]
    refine nm_e (nm_r (nI_1 i) (ih _ ?_))
    intro r hr
    by_cases e : r = i
    · subst e; exact pk_us
    · rw [pk_un e]; exact hB r (by omega)
end
