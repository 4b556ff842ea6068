/-! ===== the reference: ends ===== -/
section
variable {f_tokenLimit f_nodeLimit f_altCount f_symCount f_hasCurrent f_compiled f_n f_count f_errPos f_depth f_lastViable : Int32} {a_altRule a_altStart a_altLen a_sym a_tok a_nSym a_nAlt a_nPar a_nStart a_nEnd a_nAmb a_ends a_pre a_flag a_beg a_reach a_stNode a_stAlt a_stNext : Nat → Int32}
variable {g : ad_G} {tk : Nat → Nat} {n : Nat}
theorem ay_ss {post : Int32 → Prop} {s : Nat} {m : Int32} (hi : ad_hI tk n a_tok) (hs : s < 24) (hp : post (ad_pa (ad_cY tk n a_ends s) m (n + 1))) : wpY_stepSym post (f_tokenLimit, f_nodeLimit, (nI (ad_C g)), (nI (ad_M g)), f_hasCurrent, f_compiled, (nI n), f_count, f_errPos, f_depth, f_lastViable, a_altRule, a_altStart, a_altLen, a_sym, a_tok, a_nSym, a_nAlt, a_nPar, a_nStart, a_nEnd, a_nAmb, a_ends, a_pre, a_flag, a_beg, a_reach, a_stNode, a_stAlt, a_stNext) m (nI s) := by
  have hn := hi.1
  refine pk_loop (fun k i x => wY_stepSym_5 post m (nI s) f_tokenLimit f_nodeLimit (nI (ad_C g)) (nI (ad_M g)) f_hasCurrent f_compiled (nI n) f_count f_errPos f_depth f_lastViable a_altRule a_altStart a_altLen a_sym a_tok a_nSym a_nAlt a_nPar a_nStart a_nEnd a_nAmb a_ends a_pre a_flag a_beg a_reach a_stNode a_stAlt a_stNext k x (nI i)) (fun i x => x = ad_pa (ad_cY tk n a_ends s) m i) (n + 1) 0 0 (by omega) rfl ?_ ?_
  · intro k x hx
    subst hx
    exact br_t (nI_lt (by omega) (by omega)) hp
  · intro k i x hi' hx ih
    subst hx
    have hnext := ih _ rfl
    refine br_f (nI_nlt (by omega) (by omega)) (ek_if (ad_has (by omega)) (fun hb => ?_) (fun hb => ?_))
    · have e : ad_pa (ad_cY tk n a_ends s) m i = ad_pa (ad_cY tk n a_ends s) m (i + 1) := (if_neg hb).symm
      rw [← e] at hnext
      exact nm_r (nI_1 i) hnext
    · have hb : bt m i = true := Classical.byContradiction hb
      have e : ad_pa (ad_cY tk n a_ends s) m (i + 1) = (ad_pa (ad_cY tk n a_ends s) m i ||| ad_cY tk n a_ends s i) := if_pos hb
      rw [e] at hnext
      refine pk_le 16 s (fun z => ?_) (fun z => ?_)
      · rw [ad_16 z, ad_13, nI_clamp (by omega)]
        rw [show ad_cY tk n a_ends s i = a_ends ((s - 16) * 13 + i) from if_neg (by omega)] at hnext
        exact ⟨vp_in_nI (by omega) (by omega), nm_e (nm_r (nI_1 i) hnext)⟩
      · refine pk_le n i (fun y => ?_) (fun y => ?_)
        · rw [show ad_cY tk n a_ends s i = 0 from (if_pos z).trans (if_neg (by omega)), show (ad_pa (ad_cY tk n a_ends s) m i ||| 0) = ad_pa (ad_cY tk n a_ends s) m i from by simp] at hnext
          exact nm_r (nI_1 i) hnext
        · obtain ⟨t1, t2⟩ := hi.2 i y
          refine ⟨vp_in_nI (by omega) (by omega), ?_⟩
          rw [nI_clamp (by omega), t2]
          refine pk_eq (tk i) s (fun x => ?_) (fun x => ?_)
          · rw [show ad_cY tk n a_ends s i = (1 : Int32) <<< (nI (i + 1) &&& 31) from (if_pos z).trans (if_pos ⟨y, x⟩)] at hnext
            rw [nI_1]
            exact nm_e (nm_e hnext)
          · rw [show ad_cY tk n a_ends s i = 0 from (if_pos z).trans (if_neg (fun w => x w.2)), show (ad_pa (ad_cY tk n a_ends s) m i ||| 0) = ad_pa (ad_cY tk n a_ends s) m i from by simp] at hnext
            exact nm_r (nI_1 i) hnext
theorem ay_ae {post : Int32 → Prop} {a p : Nat} (h : ad_hY g a_altRule a_altStart a_altLen a_sym) (hi : ad_hI tk n a_tok) (ha : a < ad_C g) (hp : post (ad_ae n (ad_cY tk n a_ends) (ad_sy g) (ad_st g a) (ad_ln g a) ((1 : Int32) <<< (nI p &&& 31)))) : wpY_altEnds post (f_tokenLimit, f_nodeLimit, (nI (ad_C g)), (nI (ad_M g)), f_hasCurrent, f_compiled, (nI n), f_count, f_errPos, f_depth, f_lastViable, a_altRule, a_altStart, a_altLen, a_sym, a_tok, a_nSym, a_nAlt, a_nPar, a_nStart, a_nEnd, a_nAmb, a_ends, a_pre, a_flag, a_beg, a_reach, a_stNode, a_stAlt, a_stNext) (nI a) (nI p) := by
  obtain ⟨e1, e2, e3, hin, h8, h48, h16⟩ := ad_hY_a h ha
  refine nm_e ?_
  refine pk_loop (fun k d x => wY_altEnds_7 post (nI a) f_tokenLimit f_nodeLimit (nI (ad_C g)) (nI (ad_M g)) f_hasCurrent f_compiled (nI n) f_count f_errPos f_depth f_lastViable a_altRule a_altStart a_altLen a_sym a_tok a_nSym a_nAlt a_nPar a_nStart a_nEnd a_nAmb a_ends a_pre a_flag a_beg a_reach a_stNode a_stAlt a_stNext k x (nI d)) (fun d x => x = ad_ae n (ad_cY tk n a_ends) (ad_sy g) (ad_st g a) d ((1 : Int32) <<< (nI p &&& 31))) (ad_ln g a) 0 _ (by omega) rfl ?_ ?_
  · intro k x hx
    subst hx
    refine ⟨hin, br_t ?_ hp⟩
    rw [e3]
    exact nI_le (by omega) (by omega)
  · intro k d x hd hx ih
    subst hx
    obtain ⟨s1, s2, s3, s4⟩ := ad_hY_k h ha hd
    refine ⟨hin, br_f ?_ ⟨hin, s2, ?_⟩⟩
    · rw [e3]
      exact nI_ge (by omega) (by omega)
    · rw [s1]
      exact ay_ss hi s3 (nm_r (nI_1 _) (ih _ rfl))
theorem ay_re {post : Int32 → Prop} {r p : Nat} (h : ad_hY g a_altRule a_altStart a_altLen a_sym) (hi : ad_hI tk n a_tok) (hr : r < 8) (hp : post (ad_ro (ad_ru g) r (fun a => ad_ae n (ad_cY tk n a_ends) (ad_sy g) (ad_st g a) (ad_ln g a) ((1 : Int32) <<< (nI p &&& 31))) (ad_C g))) : wpY_ruleEnds post (f_tokenLimit, f_nodeLimit, (nI (ad_C g)), (nI (ad_M g)), f_hasCurrent, f_compiled, (nI n), f_count, f_errPos, f_depth, f_lastViable, a_altRule, a_altStart, a_altLen, a_sym, a_tok, a_nSym, a_nAlt, a_nPar, a_nStart, a_nEnd, a_nAmb, a_ends, a_pre, a_flag, a_beg, a_reach, a_stNode, a_stAlt, a_stNext) (nI r) (nI p) := by
  have hC := h.1.1
  refine pk_loop (fun k i x => wY_ruleEnds_5 post (nI r) (nI p) f_tokenLimit f_nodeLimit (nI (ad_C g)) (nI (ad_M g)) f_hasCurrent f_compiled (nI n) f_count f_errPos f_depth f_lastViable a_altRule a_altStart a_altLen a_sym a_tok a_nSym a_nAlt a_nPar a_nStart a_nEnd a_nAmb a_ends a_pre a_flag a_beg a_reach a_stNode a_stAlt a_stNext k x (nI i)) (fun i x => x = ad_ro (ad_ru g) r (fun a => ad_ae n (ad_cY tk n a_ends) (ad_sy g) (ad_st g a) (ad_ln g a) ((1 : Int32) <<< (nI p &&& 31))) i) (ad_C g) 0 _ (by omega) rfl ?_ ?_
  · intro k x hx
    subst hx
    exact br_t (nI_le (by omega) (by omega)) hp
  · intro k i x hi' hx ih
    subst hx
    have hnext := ih _ rfl
    obtain ⟨e1, e2, e3, hin, h8, h48, h16⟩ := ad_hY_a h hi'
    refine br_f (nI_ge (by omega) (by omega)) ⟨hin, ?_⟩
    rw [e1]
    refine pk_eq (ad_ru g i) r (fun e => ?_) (fun e => ?_)
    · refine ay_ae h hi hi' (nm_r (if_pos e).symm (nm_r (nI_1 i) hnext))
    · refine nm_r (nI_1 i) ?_
      have e2 : ad_ro (ad_ru g) r (fun a => ad_ae n (ad_cY tk n a_ends) (ad_sy g) (ad_st g a) (ad_ln g a) ((1 : Int32) <<< (nI p &&& 31))) (i + 1) = ad_ro (ad_ru g) r (fun a => ad_ae n (ad_cY tk n a_ends) (ad_sy g) (ad_st g a) (ad_ln g a) ((1 : Int32) <<< (nI p &&& 31))) i := if_neg e
      rw [e2] at hnext
      exact hnext
def ad_eF (g : ad_G) (tk : Nat → Nat) (n : Nat) (en : Nat → Int32) (t q : Nat) : Prop := ∃ a, a < ad_C g ∧ ad_ru g a = t / 13 ∧ ad_ch (ad_cE n (ad_cY tk n en)) (ad_sy g) (ad_st g a) (ad_ln g a) (t % 13) q
def ad_eS (g : ad_G) (tk : Nat → Nat) (n : Nat) (t q : Nat) : Prop := ad_LR g tk n (t / 13) (t % 13) q
theorem ad_eS_ys {en : Nat → Int32} (hn : n ≤ 12) (h : ad_wS n (ad_eS g tk n) en) : ad_ys g tk n en := by
  intro r p q hr hp hb
  have := h (r * 13 + p) q (by omega) (by omega) hb
  unfold ad_eS at this
  rw [show (r * 13 + p) / 13 = r by omega, show (r * 13 + p) % 13 = p by omega] at this
  exact this
theorem ay_ce {post : SY → Prop} (h : ad_hY g a_altRule a_altStart a_altLen a_sym) (hi : ad_hI tk n a_tok) (hp : ∀ en, ad_ex g tk n (ad_cY tk n en) → post (f_tokenLimit, f_nodeLimit, (nI (ad_C g)), (nI (ad_M g)), f_hasCurrent, f_compiled, (nI n), f_count, f_errPos, f_depth, f_lastViable, a_altRule, a_altStart, a_altLen, a_sym, a_tok, a_nSym, a_nAlt, a_nPar, a_nStart, a_nEnd, a_nAmb, en, a_pre, a_flag, a_beg, a_reach, a_stNode, a_stAlt, a_stNext)) : wpY_computeEnds post (f_tokenLimit, f_nodeLimit, (nI (ad_C g)), (nI (ad_M g)), f_hasCurrent, f_compiled, (nI n), f_count, f_errPos, f_depth, f_lastViable, a_altRule, a_altStart, a_altLen, a_sym, a_tok, a_nSym, a_nAlt, a_nPar, a_nStart, a_nEnd, a_nAmb, a_ends, a_pre, a_flag, a_beg, a_reach, a_stNode, a_stAlt, a_stNext) := by
  have hn := hi.1
  have hq12 : ∀ t q, ad_eS g tk n t q → q ≤ 12 := fun t q hq => Nat.le_trans (ad_LR_le hq).2.1 hn
  refine pk_loop (fun k i en => wY_computeEnds_2 post f_tokenLimit f_nodeLimit (nI (ad_C g)) (nI (ad_M g)) f_hasCurrent f_compiled (nI n) f_count f_errPos f_depth f_lastViable k (nI i) a_altRule a_altStart a_altLen a_sym a_tok a_nSym a_nAlt a_nPar a_nStart a_nEnd a_nAmb en a_pre a_flag a_beg a_reach a_stNode a_stAlt a_stNext) (fun i en => ∀ t, t < i → en t = 0) 104 0 a_ends (by omega) (fun j hj => absurd hj (Nat.not_lt_zero j)) ?_ ?_
  · intro k en hen
    refine br_t (by decide) ?_
    refine pk_loop (fun k j en => wY_computeEnds_23 post f_tokenLimit f_nodeLimit (nI (ad_C g)) (nI (ad_M g)) f_hasCurrent f_compiled (nI n) f_count f_errPos f_depth f_lastViable k (nI j) a_altRule a_altStart a_altLen a_sym a_tok a_nSym a_nAlt a_nPar a_nStart a_nEnd a_nAmb en a_pre a_flag a_beg a_reach a_stNode a_stAlt a_stNext) (fun j en => ad_wS n (ad_eS g tk n) en ∧ j ≤ ad_mu en 1352) 1400 0 en (by omega) ⟨fun t q ht _ hb => ?_, by omega⟩ ?_ ?_
    · rw [hen t ht, b_0] at hb
      exact (nomatch hb)
    · intro k en hen
      have := ad_mu_le en 1352
      have := hen.2
      omega
    · intro k j en hj hen ih
      refine br_f (nI_ge (b := 1400) hj (by decide)) ?_
      refine lp3 (fun k' i ch en => wY_computeEnds_34 post (wY_computeEnds_23 post f_tokenLimit f_nodeLimit (nI (ad_C g)) (nI (ad_M g)) f_hasCurrent f_compiled (nI n) f_count f_errPos f_depth f_lastViable k) (nI j) f_tokenLimit f_nodeLimit (nI (ad_C g)) (nI (ad_M g)) f_hasCurrent f_compiled (nI n) f_count f_errPos f_depth f_lastViable k' ch (nI i) a_altRule a_altStart a_altLen a_sym a_tok a_nSym a_nAlt a_nPar a_nStart a_nEnd a_nAmb en a_pre a_flag a_beg a_reach a_stNode a_stAlt a_stNext) (fun i ch en => i ≤ 104 ∧ ad_sw n (ad_eF g tk n) (ad_eS g tk n) j ch i en) (fun i _ _ => 104 - i) ?_ 0 0 en ⟨by omega, hen.1, Or.inl ⟨rfl, fun t ht => absurd ht (Nat.not_lt_zero t), hen.2⟩⟩
      intro k' i ch en ⟨hi4, hsw⟩ ih'
      by_cases he : i = 104
      · subst he
        refine br_t (by decide) ?_
        rcases hsw.2 with ⟨z1, z2, z3⟩ | ⟨z1, z2⟩
        · refine br_t z1 (hp en (ad_y_ex h.1 (by omega) (ad_eS_ys hn hsw.1) fun r p hr hpn a q ha hra hch => ?_))
          refine z2 (r * 13 + p) (by omega) (by omega) q ⟨a, ha, by omega, ?_⟩
          rw [show (r * 13 + p) % 13 = p by omega]
          exact hch
        · subst z1
          exact br_f (by decide) (nm_r (nI_1 j) (ih en ⟨hsw.1, z2⟩))
      · have hi' : i < 104 := by omega
        have e1 : nI i / 13 = nI (i / 13) := pk_div (d := 13) (by omega) (by decide) (by decide)
        have e2 : nI i - nI i / 13 * 13 = nI (i % 13) := pk_rem (d := 13) (by omega) (by decide) (by decide)
        have hin : vp_in (nI i) 104 := vp_in_nI hi' (by omega)
        refine br_f (nI_ge (b := 104) hi' (by decide)) ⟨by decide, ?_⟩
        rw [e2, e1]
        refine pk_le (i % 13) n (fun z => ⟨by decide, by decide, ?_⟩) (fun z => nm_r (nI_1 i) (ih' (i + 1) ch en ⟨by omega, ad_sw_skip hsw fun y => absurd y (by omega)⟩ (by omega)))
        refine ay_re h hi (by omega) ⟨hin, nm_e ⟨hin, ?_⟩⟩
        rw [nI_clamp (by omega)]
        have hvb : ∀ q, bt (ad_ro (ad_ru g) (i / 13) (fun a => ad_ae n (ad_cY tk n en) (ad_sy g) (ad_st g a) (ad_ln g a) ((1 : Int32) <<< (nI (i % 13) &&& 31))) (ad_C g)) q = true ↔ ad_eF g tk n en i q := by
          intro q
          rw [ad_ro_b]
          constructor
          · intro ⟨a, y1, y2, y3⟩
            exact ⟨a, y1, y2, (ad_ae_1 _ _ _ _ _ (by omega) q).mp y3⟩
          · intro ⟨a, y1, y2, y3⟩
            exact ⟨a, y1, y2, (ad_ae_1 _ _ _ _ _ (by omega) q).mpr y3⟩
        generalize ad_ro (ad_ru g) (i / 13) (fun a => ad_ae n (ad_cY tk n en) (ad_sy g) (ad_st g a) (ad_ln g a) ((1 : Int32) <<< (nI (i % 13) &&& 31))) (ad_C g) = v at hvb ⊢
        by_cases hz : (v ||| en i) = en i
        · exact br_t hz (nm_r (nI_1 i) (ih' (i + 1) ch en ⟨by omega, ad_sw_same hsw (fun q hq => (hvb q).mpr hq) hz⟩ (by omega)))
        · refine br_f hz ⟨hin, nm_e (nm_r (nI_1 i) (ih' (i + 1) 1 _ ⟨by omega, ad_sw_new hq12 hsw hi' (fun q hq => ?_) z hz⟩ (by omega)))⟩
          obtain ⟨a, y1, y2, y3⟩ := (hvb q).mp hq
          show ad_LR g tk n (i / 13) (i % 13) q
          rw [← y2]
          exact ad_y_ch h.1 (by omega) (ad_eS_ys hn hsw.1) y1 z y3
  · intro k i en hi' hen ih
    refine br_f (nI_ge (b := 104) hi' (by decide)) ⟨vp_in_nI hi' (by omega), ?_⟩
    rw [nI_clamp (by omega)]
    refine nm_e (nm_r (nI_1 i) (ih _ ?_))
    intro t ht
    by_cases e : t = i
    · subst e; exact pk_us
    · rw [pk_un e]; exact hen t (by omega)
end
