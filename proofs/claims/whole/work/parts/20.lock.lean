/-! ===== both trees grow alike ===== -/
def ad_op (d : Nat) (nd : Nat → Nat) : Int32 := match d with
  | 0 => -1
  | f + 1 => nI (nd f)
theorem ad_op_eq (f : Nat) (nd : Nat → Nat) : (if f = 0 then -1 else nI (nd (f - 1))) = ad_op f nd := by
  cases f with
  | zero => exact if_pos rfl
  | succ f => exact if_neg (Nat.succ_ne_zero f)
section
variable {g : ad_G} {tk : Nat → Nat} {n : Nat}
theorem ad_vX_iff (w : ad_wf g) {col : Nat → Nat → Int32} (hx : ad_ex g tk n col) {G : Int32} {r p a : Nat} (ha : a < ad_C g) (hp : p ≤ 12) : ad_vX g n col G r p a = true ↔ ad_ru g a = r ∧ ∃ q, ad_ch (ad_E g tk n) (ad_sy g) (ad_st g a) (ad_ln g a) p q ∧ bt G q = true := by
  unfold ad_vX
  rw [Bool.and_eq_true, decide_eq_true_iff, decide_eq_true_iff, ad_and0]
  constructor
  · intro ⟨h1, h2⟩
    obtain ⟨q, h3, h4⟩ := Classical.byContradiction h2
    exact ⟨h1, q, (ad_ex_ch w hx ha (by omega) (by omega) p q).mp ((ad_ae_1 _ _ _ _ _ (by omega) q).mp h3), h4⟩
  · intro ⟨h1, q, h3, h4⟩
    exact ⟨h1, fun z => z ⟨q, (ad_ae_1 _ _ _ _ _ (by omega) q).mpr ((ad_ex_ch w hx ha (by omega) (by omega) p q).mpr h3), h4⟩⟩
theorem ad_vY_iff (w : ad_wf g) {col : Nat → Nat → Int32} (hx : ad_ex g tk n col) {r p a d : Nat} {sa sn : Nat → Nat} (hs : ∀ i, i < d → sa i < ad_C g ∧ sn i ≤ ad_ln g (sa i)) (ha : a < ad_C g) (hp : p ≤ 12) : ad_vY g n col sa sn d r p a = true ↔ ad_ru g a = r ∧ ∃ q, ad_ch (ad_E g tk n) (ad_sy g) (ad_st g a) (ad_ln g a) p q ∧ ad_Gs g (ad_E g tk n) n sa sn d q := by
  unfold ad_vY
  rw [Bool.and_eq_true, decide_eq_true_iff, ad_cm_b]
  constructor
  · intro ⟨h1, q, h3, h4⟩
    exact ⟨h1, q, (ad_ex_ch w hx ha (by omega) (by omega) p q).mp ((ad_ae_1 _ _ _ _ _ (by omega) q).mp h3), (ad_Gs_iff w hx d q hs).mp h4⟩
  · intro ⟨h1, q, h3, h4⟩
    exact ⟨h1, q, (ad_ae_1 _ _ _ _ _ (by omega) q).mpr ((ad_ex_ch w hx ha (by omega) (by omega) p q).mpr h3), (ad_Gs_iff w hx d q hs).mpr h4⟩
/-- the goals of a child -/
theorem ad_goals (w : ad_wf g) {col : Nat → Nat → Int32} (hx : ad_ex g tk n col) (hn : n ≤ 12) {sa sn : Nat → Nat} {f : Nat} {G0 : Int32} (ha : sa f < ad_C g) (hl : sn f < ad_ln g (sa f)) (hG : ∀ q, bt G0 q = true ↔ ad_Gs g (ad_E g tk n) n sa sn f q) (q : Nat) :
    bt (ad_gl n col (ad_sy g) (ad_st g (sa f) + ad_ln g (sa f)) (ad_st g (sa f) + ad_ln g (sa f) - (ad_st g (sa f) + sn f + 1)) G0) q = true ↔ ad_Gs g (ad_E g tk n) n sa (ad_set sn f (sn f + 1)) (f + 1) q := by
  rw [ad_gl_b (by omega) _ _ _ _ _ _ (by omega)]
  show _ ↔ ∃ q', ad_ch (ad_E g tk n) (ad_sy g) (ad_st g (sa f) + ad_set sn f (sn f + 1) f) (ad_ln g (sa f) - ad_set sn f (sn f + 1) f) q q' ∧ ad_Gs g (ad_E g tk n) n sa (ad_set sn f (sn f + 1)) f q'
  rw [ad_set_s, show ad_st g (sa f) + ad_ln g (sa f) - (ad_st g (sa f) + ad_ln g (sa f) - (ad_st g (sa f) + sn f + 1)) = ad_st g (sa f) + (sn f + 1) by omega, show ad_st g (sa f) + ad_ln g (sa f) - (ad_st g (sa f) + sn f + 1) = ad_ln g (sa f) - (sn f + 1) by omega]
  have hg : ∀ q', bt G0 q' = true ↔ ad_Gs g (ad_E g tk n) n sa (ad_set sn f (sn f + 1)) f q' := fun q' => (hG q').trans (ad_Gs_eq f q' fun i hi => ⟨rfl, by rw [ad_set_n (by omega)]⟩)
  constructor
  · intro ⟨q', h1, h2⟩
    exact ⟨q', (ad_ex_ch w hx ha (by omega) (by omega) q q').mp h1, (hg q').mp h2⟩
  · intro ⟨q', h1, h2⟩
    exact ⟨q', (ad_ex_ch w hx ha (by omega) (by omega) q q').mpr h1, (hg q').mpr h2⟩
end
section
variable {f_tokenLimit f_nodeLimit f_altCount f_symbolCount f_compiled f_inputLength f_resultSize f_resultError : Int32} {a_altRule a_altNumber a_altStart a_altEnd a_symbols a_input a_firstRules a_spans a_begun a_symbolOf a_altOf a_parentOf a_startOf a_endOf a_ambiguousOf a_nextSymbol a_stopSymbol a_goalsOf : Nat → Int32}
variable {y_f_tokenLimit y_f_nodeLimit y_f_altCount y_f_symCount y_f_hasCurrent y_f_compiled y_f_n y_f_count y_f_errPos y_f_depth y_f_lastViable : Int32} {y_a_altRule y_a_altStart y_a_altLen y_a_sym y_a_tok y_a_nSym y_a_nAlt y_a_nPar y_a_nStart y_a_nEnd y_a_nAmb y_a_ends y_a_pre y_a_flag y_a_beg y_a_reach y_a_stNode y_a_stAlt y_a_stNext : Nat → Int32}
variable {g : ad_G} {tk : Nat → Nat} {n : Nat}
theorem tr_lock {lim : Nat} (h : ad_hX g a_altRule a_altStart a_altEnd a_symbols) (hy : ad_hY g y_a_altRule y_a_altStart y_a_altLen y_a_sym) (hi : ad_hI tk n y_a_tok) (hx : ad_ex g tk n (ad_cX a_spans)) (hnum : ∀ b, b < ad_C g → a_altNumber b = nI (1 + ad_cn (fun i => decide (ad_ru g i = ad_ru g b)) b)) :
    ∀ (m c d pos step : Nat) (nd sa sn : Nat → Nat) (nx sto go sym alt par sta amb en yN yA yX yE : Nat → Int32), 128 ≤ step + m → ad_TI g tk n lim c d pos step nd sa sn nx sto go par alt amb en yN yA yX yE →
    ∃ (B B' : Int32) (c' : Nat) (sym' alt' par' sta' amb' en' yE' : Nat → Int32),
      ((B = 1 ∧ B' = 0 ∧ 1 ≤ c' ∧ c' ≤ 64 ∧ (∀ i, i < c' → en' i = yE' i)) ∨ (B = 0 ∧ B' = 1)) ∧ (∀ i, amb' i = 0 ∨ (amb' i = 1 ∧ 0 < alt' i)) ∧ (par 0 = -1 → par' 0 = -1) ∧
      (∀ (post : Int32 → SX → Prop) (k : Nat), m < k → (∀ nx' sto' go', post B (f_tokenLimit, (nI lim), (nI (ad_C g)), (nI (ad_M g)), f_compiled, (nI n), (nI c'), f_resultError, a_altRule, a_altNumber, a_altStart, a_altEnd, a_symbols, a_input, a_firstRules, a_spans, a_begun, sym', alt', par', sta', en', amb', nx', sto', go')) → wX_growTree_29 post k (ad_op d nd) (nI pos) (nI step) f_tokenLimit (nI lim) (nI (ad_C g)) (nI (ad_M g)) f_compiled (nI n) (nI c) f_resultError a_altRule a_altNumber a_altStart a_altEnd a_symbols a_input a_firstRules a_spans a_begun sym alt par sta en amb nx sto go) ∧
      (∀ (ye : Nat → Int32) (lv : Int32), ad_ex g tk n (ad_cY tk n ye) → ∀ (post : Int32 → SY → Prop) (k : Nat), m < k → (∀ lv' D' yN' yA' yX', post B' (y_f_tokenLimit, (nI lim), (nI (ad_C g)), (nI (ad_M g)), y_f_hasCurrent, y_f_compiled, (nI n), (nI c'), y_f_errPos, D', lv', y_a_altRule, y_a_altStart, y_a_altLen, y_a_sym, y_a_tok, sym', alt', par', sta', yE', amb', ye, y_a_pre, y_a_flag, y_a_beg, y_a_reach, yN', yA', yX')) → wY_walk_81 post k (nI pos) (nI step) y_f_tokenLimit (nI lim) (nI (ad_C g)) (nI (ad_M g)) y_f_hasCurrent y_f_compiled (nI n) (nI c) y_f_errPos (nI d) lv y_a_altRule y_a_altStart y_a_altLen y_a_sym y_a_tok sym alt par sta yE amb ye y_a_pre y_a_flag y_a_beg y_a_reach yN yA yX) := by
  have hn := hi.1
  have w := h.1
  have hM48 := w.2.1
  have hC16 := w.1
  intro m
  induction m with
  | zero =>
    intro c d pos step nd sa sn nx sto go sym alt par sta amb en yN yA yX yE hm hT
    obtain ⟨h1, h2, h3, h4, h5, h6, h7, h8, h9, h10⟩ := hT
    exact absurd hm (by omega)
  | succ m ih =>
    intro c d pos step nd sa sn nx sto go sym alt par sta amb en yN yA yX yE hm hT
    have hT0 := hT
    obtain ⟨h1, h2, h3, h4, h5, h6, h7, h8, h9, h10⟩ := hT0
    cases d with
    | zero =>
      refine ⟨1, 0, c, sym, alt, par, sta, amb, en, yE, Or.inl ⟨rfl, rfl, h1, by omega, fun i hi => h9 i hi (fun f hf => absurd hf (Nat.not_lt_zero f))⟩, h10, fun z => z, ?_, ?_⟩
      · intro post k hk hp
        obtain ⟨k, rfl⟩ : ∃ k', k = k' + 1 := ⟨k - 1, by omega⟩
        exact xs_end (by omega) (hp nx sto go)
      · intro ye lv hye post k hk hp
        obtain ⟨k, rfl⟩ : ∃ k', k = k' + 1 := ⟨k - 1, by omega⟩
        exact ys_end (by omega) (hp lv 0 yN yA yX)
    | succ f =>
      obtain ⟨b1, b2, b3, b4, b5, b6, b7, b8, b9, b10, b11⟩ := h8 f (by omega)
      have hst := (w.2.2.1 (sa f) b2).2
      by_cases hcl : sn f = ad_ln g (sa f)
      · obtain ⟨B, B', c', sym', alt', par', sta', amb', en', yE', hout, ham, hpr, hX, hY⟩ := ih c f pos (step + 1) nd sa sn nx sto go sym alt par sta amb _ yN yA yX _ (by omega) (ad_TI_close hT hcl)
        refine ⟨B, B', c', sym', alt', par', sta', amb', en', yE', hout, ham, hpr, ?_, ?_⟩
        · intro post k hk hp
          obtain ⟨k, rfl⟩ : ∃ k', k = k' + 1 := ⟨k - 1, by omega⟩
          refine xs_close (o := nd f) (by omega) (by omega) b7 b8 (by omega) (by omega) ?_
          rw [b9, ad_op_eq]
          exact hX post k (by omega) hp
        · intro ye lv hye post k hk hp
          obtain ⟨k, rfl⟩ : ∃ k', k = k' + 1 := ⟨k - 1, by omega⟩
          exact ys_close (o := nd f) hy (by omega) (by omega) (by omega) b2 b5 b6 b4 hcl (hY ye lv hye post k (by omega) hp)
      · have hl : sn f < ad_ln g (sa f) := by omega
        have hsy : a_symbols (ad_st g (sa f) + sn f) = nI (ad_sy g (ad_st g (sa f) + sn f)) := h.2.2 _ (by omega)
        have h24 := ad_wsy w b2 hl
        by_cases h16 : ad_sy g (ad_st g (sa f) + sn f) < 16
        · by_cases hfull : lim ≤ c
          · refine ⟨0, 1, c, sym, alt, par, sta, amb, en, yE, Or.inr ⟨rfl, rfl⟩, h10, fun z => z, ?_, ?_⟩
            · intro post k hk hp
              obtain ⟨k, rfl⟩ : ∃ k', k = k' + 1 := ⟨k - 1, by omega⟩
              exact xs_full (o := nd f) (by omega) (by omega) b7 b8 (by omega) (by omega) hfull (by omega) (hp nx sto go)
            · intro ye lv hye post k hk hp
              obtain ⟨k, rfl⟩ : ∃ k', k = k' + 1 := ⟨k - 1, by omega⟩
              exact ys_fullt (o := nd f) hy (by omega) (by omega) b2 b5 b6 b4 hl h16 hfull (by omega) (hp _ _ _ _ _)
          · obtain ⟨hpos, hT'⟩ := ad_TI_tok hT hl h16 (by omega) (nI (nd f))
            obtain ⟨B, B', c', sym', alt', par', sta', amb', en', yE', hout, ham, hpr, hX, hY⟩ := ih (c + 1) (f + 1) (pos + 1) (step + 1) nd sa _ _ sto go (upd sym c (nI (ad_sy g (ad_st g (sa f) + sn f)))) _ _ (upd sta c (nI pos)) _ _ yN yA _ _ (by omega) hT'
            refine ⟨B, B', c', sym', alt', par', sta', amb', en', yE', hout, ham, fun z => hpr (by rw [pk_un (by omega)]; exact z), ?_, ?_⟩
            · intro post k hk hp
              obtain ⟨k, rfl⟩ : ∃ k', k = k' + 1 := ⟨k - 1, by omega⟩
              exact xs_tok (o := nd f) (by omega) (by omega) b7 b8 (by omega) (by omega) (by omega) h3 hsy h16 (hX post k (by omega) hp)
            · intro ye lv hye post k hk hp
              obtain ⟨k, rfl⟩ : ∃ k', k = k' + 1 := ⟨k - 1, by omega⟩
              exact ys_tok (o := nd f) hy (by omega) (by omega) b2 b5 b6 b4 hl h16 (by omega) h3 hn hpos (hY ye lv hye post k (by omega) hp)
        · have hG := ad_goals w hx hn b2 hl b10
          generalize hGe : ad_gl n (ad_cX a_spans) (ad_sy g) (ad_st g (sa f) + ad_ln g (sa f)) (ad_st g (sa f) + ad_ln g (sa f) - (ad_st g (sa f) + sn f + 1)) (go (nd f)) = G at hG
          have hfr : ∀ i, i < f + 1 → sa i < ad_C g ∧ ad_set sn f (sn f + 1) i ≤ ad_ln g (sa i) := by
            intro i hi
            obtain ⟨z1, z2, z3, _⟩ := h8 i (by omega)
            refine ⟨z2, ?_⟩
            by_cases e : i = f
            · subst e; rw [ad_set_s]; omega
            · rw [ad_set_n e]; exact z3
          have hvv : ∀ ye, ad_ex g tk n (ad_cY tk n ye) → ∀ a, a < ad_C g → ad_vX g n (ad_cX a_spans) G (ad_sy g (ad_st g (sa f) + sn f) - 16) pos a = ad_vY g n (ad_cY tk n ye) sa (ad_set sn f (sn f + 1)) (f + 1) (ad_sy g (ad_st g (sa f) + sn f) - 16) pos a := by
            intro ye hye a ha
            refine Bool.eq_iff_iff.mpr ?_
            rw [ad_vX_iff w hx ha (by omega), ad_vY_iff w hye hfr ha (by omega)]
            exact ⟨fun ⟨z1, q, z2, z3⟩ => ⟨z1, q, z2, (hG q).mp z3⟩, fun ⟨z1, q, z2, z3⟩ => ⟨z1, q, z2, (hG q).mpr z3⟩⟩
          obtain ⟨a0, q0, z1, z2, z3, z4⟩ := ad_TI_some hT hl (by omega)
          obtain ⟨b, hb, hvb, hlb⟩ := ad_least (ad_vX g n (ad_cX a_spans) G (ad_sy g (ad_st g (sa f) + sn f) - 16) pos) (ad_C g) ⟨a0, z1, (ad_vX_iff w hx z1 (by omega)).mpr ⟨z2, q0, z3, (hG q0).mpr z4⟩⟩
          have hvbY : ∀ ye, ad_ex g tk n (ad_cY tk n ye) → ad_vY g n (ad_cY tk n ye) sa (ad_set sn f (sn f + 1)) (f + 1) (ad_sy g (ad_st g (sa f) + sn f) - 16) pos b = true := fun ye hye => by rw [← hvv ye hye b hb]; exact hvb
          have hlbY : ∀ ye, ad_ex g tk n (ad_cY tk n ye) → ∀ b', b' < b → ¬ ad_vY g n (ad_cY tk n ye) sa (ad_set sn f (sn f + 1)) (f + 1) (ad_sy g (ad_st g (sa f) + sn f) - 16) pos b' = true := fun ye hye b' hb' => by rw [← hvv ye hye b' (by omega)]; exact hlb b' hb'
          have hF : ad_yF g (f + 1) sa (ad_set sn f (sn f + 1)) yA (upd yX f (nI (sn f + 1))) := by
            intro i hi
            obtain ⟨y1, y2, y3, y4, y5, y6, _⟩ := h8 i (by omega)
            refine ⟨y5, ?_, hfr i hi⟩
            by_cases e : i = f
            · subst e; rw [pk_us, ad_set_s]
            · rw [pk_un e, ad_set_n e]; exact y6
          by_cases hfull : lim ≤ c
          · refine ⟨0, 1, c, sym, alt, par, sta, amb, en, yE, Or.inr ⟨rfl, rfl⟩, h10, fun z => z, ?_, ?_⟩
            · intro post k hk hp
              obtain ⟨k, rfl⟩ : ∃ k', k = k' + 1 := ⟨k - 1, by omega⟩
              exact xs_full (o := nd f) (by omega) (by omega) b7 b8 (by omega) (by omega) hfull (by omega) (hp nx sto go)
            · intro ye lv hye post k hk hp
              obtain ⟨k, rfl⟩ : ∃ k', k = k' + 1 := ⟨k - 1, by omega⟩
              exact ys_fullr (o := nd f) hy hi (by omega) (by omega) b2 b5 b6 b4 hl (by omega) hfull (by omega) hF hb (hvbY ye hye) (hlbY ye hye) (fun lv' => hp lv' _ _ _ _)
          · have hcn : ∀ ye, ad_ex g tk n (ad_cY tk n ye) → ad_cn (ad_vX g n (ad_cX a_spans) G (ad_sy g (ad_st g (sa f) + sn f) - 16) pos) (ad_C g) = ad_cn (ad_vY g n (ad_cY tk n ye) sa (ad_set sn f (sn f + 1)) (f + 1) (ad_sy g (ad_st g (sa f) + sn f) - 16) pos) (ad_C g) := fun ye hye => ad_cn_eq _ (hvv ye hye)
            have hcb := ad_cn_le (fun i => decide (ad_ru g i = ad_ru g b)) b
            obtain ⟨_, q1, y2, y3⟩ := (ad_vX_iff w hx hb (by omega)).mp hvb
            have hT' := ad_TI_rule (Y := nI pos) (num := nI (1 + ad_cn (fun i => decide (ad_ru g i = ad_ru g b)) b)) (am := if ad_cn (ad_vX g n (ad_cX a_spans) G (ad_sy g (ad_st g (sa f) + sn f) - 16) pos) (ad_C g) ≤ 1 then 0 else 1) hT hl (by omega) hb (nI_lt (a := 0) (by omega) (by omega)) (by split; exact Or.inl rfl; exact Or.inr rfl) hG ⟨q1, y2, y3⟩
            obtain ⟨B, B', c', sym', alt', par', sta', amb', en', yE', hout, ham, hpr, hX, hY⟩ := ih (c + 1) (f + 2) pos (step + 1) _ _ _ _ _ _ (upd sym c (nI (ad_sy g (ad_st g (sa f) + sn f) - 16))) _ _ (upd sta c (nI pos)) _ _ _ _ _ _ (by omega) hT'
            refine ⟨B, B', c', sym', alt', par', sta', amb', en', yE', hout, ham, fun z => hpr (by rw [pk_un (by omega)]; exact z), ?_, ?_⟩
            · intro post k hk hp
              obtain ⟨k, rfl⟩ : ∃ k', k = k' + 1 := ⟨k - 1, by omega⟩
              have hX := hX post k (by omega) hp
              rw [← hnum b hb, ← hGe] at hX
              rw [← hGe] at hvb hlb
              refine xs_rule (o := nd f) h hn (by omega) b1 b7 b8 rfl (by omega) (by omega) (by omega) h3 hsy (by omega) h24 hb hvb hlb ?_
              rw [show ad_op (f + 2) (ad_set nd (f + 1) c) = nI c from congrArg nI ad_set_s] at hX
              exact hX
            · intro ye lv hye post k hk hp
              obtain ⟨k, rfl⟩ : ∃ k', k = k' + 1 := ⟨k - 1, by omega⟩
              have hY := hY ye (nI (ad_cn (ad_vY g n (ad_cY tk n ye) sa (ad_set sn f (sn f + 1)) (f + 1) (ad_sy g (ad_st g (sa f) + sn f) - 16) pos) (ad_C g))) hye post k (by omega) hp
              rw [hcn ye hye] at hY
              exact ys_rule (o := nd f) hy hi (by omega) (by omega) b2 b5 b6 b4 hl (by omega) (by omega) h3 hF hb (hvbY ye hye) (hlbY ye hye) (fun lv' e => by rw [e]; exact hY)
end
