/-! ===== the reference: pre ===== -/
def ad_cP2 (tk : Nat → Nat) (n : Nat) (pr : Nat → Int32) (s p : Nat) : Int32 :=
  if s < 16 then (if p < n ∧ tk p = s then ((1 : Int32) <<< (nI p &&& 31)) ||| ((1 : Int32) <<< (nI (p + 1) &&& 31)) else (1 : Int32) <<< (nI p &&& 31)) else pr ((s - 16) * 13 + p)
theorem ad_or_as (x y z : Int32) : ((x ||| y) ||| z) = (x ||| (y ||| z)) := ad_bext fun q => by
  rw [ad_orb, ad_orb, ad_orb, ad_orb]
  exact or_assoc
section
variable {f_tokenLimit f_nodeLimit f_altCount f_symCount f_hasCurrent f_compiled f_n f_count f_errPos f_depth f_lastViable : Int32} {a_altRule a_altStart a_altLen a_sym a_tok a_nSym a_nAlt a_nPar a_nStart a_nEnd a_nAmb a_ends a_pre a_flag a_beg a_reach a_stNode a_stAlt a_stNext : Nat → Int32}
variable {g : ad_G} {tk : Nat → Nat} {n : Nat}
theorem ay_ps {post : Int32 → Prop} {s : Nat} {m : Int32} (hi : ad_hI tk n a_tok) (hs : s < 24) (hp : post (ad_pa (ad_cP2 tk n a_pre s) m (n + 1))) : wpY_preStep post (f_tokenLimit, f_nodeLimit, (nI (ad_C g)), (nI (ad_M g)), f_hasCurrent, f_compiled, (nI n), f_count, f_errPos, f_depth, f_lastViable, a_altRule, a_altStart, a_altLen, a_sym, a_tok, a_nSym, a_nAlt, a_nPar, a_nStart, a_nEnd, a_nAmb, a_ends, a_pre, a_flag, a_beg, a_reach, a_stNode, a_stAlt, a_stNext) m (nI s) := by
  have hn := hi.1
  refine pk_loop (fun k i x => wY_preStep_5 post m (nI s) f_tokenLimit f_nodeLimit (nI (ad_C g)) (nI (ad_M g)) f_hasCurrent f_compiled (nI n) f_count f_errPos f_depth f_lastViable a_altRule a_altStart a_altLen a_sym a_tok a_nSym a_nAlt a_nPar a_nStart a_nEnd a_nAmb a_ends a_pre a_flag a_beg a_reach a_stNode a_stAlt a_stNext k x (nI i)) (fun i x => x = ad_pa (ad_cP2 tk n a_pre s) m i) (n + 1) 0 0 (by omega) rfl ?_ ?_
  · intro k x hx
    subst hx
    exact br_t (nI_lt (by omega) (by omega)) hp
  · intro k i x hi' hx ih
    subst hx
    have hnext := ih _ rfl
    refine br_f (nI_nlt (by omega) (by omega)) (ek_if (ad_has (by omega)) (fun hb => ?_) (fun hb => ?_))
    · have e : ad_pa (ad_cP2 tk n a_pre s) m i = ad_pa (ad_cP2 tk n a_pre s) m (i + 1) := (if_neg hb).symm
      rw [← e] at hnext
      exact nm_r (nI_1 i) hnext
    · have hb : bt m i = true := Classical.byContradiction hb
      have e : ad_pa (ad_cP2 tk n a_pre s) m (i + 1) = (ad_pa (ad_cP2 tk n a_pre s) m i ||| ad_cP2 tk n a_pre s i) := if_pos hb
      rw [e] at hnext
      refine pk_le 16 s (fun z => ?_) (fun z => nm_e ?_)
      · rw [ad_16 z, ad_13, nI_clamp (by omega)]
        rw [show ad_cP2 tk n a_pre s i = a_pre ((s - 16) * 13 + i) from if_neg (by omega)] at hnext
        exact ⟨vp_in_nI (by omega) (by omega), nm_e (nm_r (nI_1 i) hnext)⟩
      · refine pk_le n i (fun y => ?_) (fun y => ?_)
        · rw [show ad_cP2 tk n a_pre s i = (1 : Int32) <<< (nI i &&& 31) from (if_pos z).trans (if_neg (by omega))] at hnext
          exact nm_r (nI_1 i) hnext
        · obtain ⟨t1, t2⟩ := hi.2 i y
          refine ⟨vp_in_nI (by omega) (by omega), ?_⟩
          rw [nI_clamp (by omega), t2]
          refine pk_eq (tk i) s (fun x => ?_) (fun x => ?_)
          · rw [show ad_cP2 tk n a_pre s i = ((1 : Int32) <<< (nI i &&& 31)) ||| ((1 : Int32) <<< (nI (i + 1) &&& 31)) from (if_pos z).trans (if_pos ⟨y, x⟩), ← ad_or_as] at hnext
            rw [nI_1]
            exact nm_e (nm_e hnext)
          · rw [show ad_cP2 tk n a_pre s i = (1 : Int32) <<< (nI i &&& 31) from (if_pos z).trans (if_neg (fun w => x w.2))] at hnext
            exact nm_r (nI_1 i) hnext
/-- the bits of altPre after d symbols -/
def ad_apd (g : ad_G) (tk : Nat → Nat) (n : Nat) (pr : Nat → Int32) (a d p q : Nat) : Prop :=
  (∃ k, k ≤ d ∧ ad_at g tk n a k p q) ∨ (∃ k m, k < d ∧ ad_at g tk n a k p m ∧ 16 ≤ ad_sy g (ad_st g a + k) ∧ bt (pr ((ad_sy g (ad_st g a + k) - 16) * 13 + m)) q = true)
theorem ay_ap {post : Int32 → Prop} {a p : Nat} (h : ad_hY g a_altRule a_altStart a_altLen a_sym) (hi : ad_hI tk n a_tok) (hex : ad_ex g tk n (ad_cY tk n a_ends)) (ha : a < ad_C g) (hpn : p ≤ n) (hp : ∀ x, (∀ q, bt x q = true ↔ ad_ap g tk n a_pre a p q) → post x) : wpY_altPre post (f_tokenLimit, f_nodeLimit, (nI (ad_C g)), (nI (ad_M g)), f_hasCurrent, f_compiled, (nI n), f_count, f_errPos, f_depth, f_lastViable, a_altRule, a_altStart, a_altLen, a_sym, a_tok, a_nSym, a_nAlt, a_nPar, a_nStart, a_nEnd, a_nAmb, a_ends, a_pre, a_flag, a_beg, a_reach, a_stNode, a_stAlt, a_stNext) (nI a) (nI p) := by
  have hn := hi.1
  obtain ⟨e1, e2, e3, hin, h8, h48, h16⟩ := ad_hY_a h ha
  have hae : ∀ d q, d ≤ ad_ln g a → (bt (ad_ae n (ad_cY tk n a_ends) (ad_sy g) (ad_st g a) d ((1 : Int32) <<< (nI p &&& 31))) q = true ↔ ad_at g tk n a d p q) := by
    intro d q hd
    rw [ad_ae_1 _ _ _ _ _ (by omega)]
    exact ad_ex_ch h.1 hex ha (by omega) (by omega) p q
  refine nm_e ?_
  refine lp2 (fun k d x4 => wY_altPre_10 post (nI a) f_tokenLimit f_nodeLimit (nI (ad_C g)) (nI (ad_M g)) f_hasCurrent f_compiled (nI n) f_count f_errPos f_depth f_lastViable a_altRule a_altStart a_altLen a_sym a_tok a_nSym a_nAlt a_nPar a_nStart a_nEnd a_nAmb a_ends a_pre a_flag a_beg a_reach a_stNode a_stAlt a_stNext k (ad_ae n (ad_cY tk n a_ends) (ad_sy g) (ad_st g a) d ((1 : Int32) <<< (nI p &&& 31))) x4 (nI d)) (fun d x4 => d ≤ ad_ln g a ∧ ∀ q, bt x4 q = true ↔ ad_apd g tk n a_pre a d p q) (fun d _ => ad_ln g a - d) ?_ 0 _ ?_
  · intro k d x4 ⟨hdl, hx⟩ ih
    by_cases he : d = ad_ln g a
    · subst he
      refine ⟨hin, br_t ?_ (hp x4 hx)⟩
      rw [e3]
      exact nI_le (by omega) (by omega)
    · have hd : d < ad_ln g a := by omega
      obtain ⟨s1, s2, s3, s4⟩ := ad_hY_k h ha hd
      refine ⟨hin, br_f ?_ ⟨hin, s2, nm_r s1 ?_⟩⟩
      · rw [e3]
        exact nI_ge (by omega) (by omega)
      refine ay_ps hi s3 (nm_e (ay_ss hi s3 (nm_e (nm_r (nI_1 d) (ih (d + 1) _ ⟨by omega, fun q => ?_⟩ (by omega))))))
      have hm : bt (ad_pa (ad_cY tk n a_ends (ad_sy g (ad_st g a + d))) (ad_ae n (ad_cY tk n a_ends) (ad_sy g) (ad_st g a) d ((1 : Int32) <<< (nI p &&& 31))) (n + 1)) q = true ↔ ad_at g tk n a (d + 1) p q := hae (d + 1) q (by omega)
      rw [ad_orb, ad_orb, hx q, hm, ad_pa_b]
      constructor
      · intro y
        rcases y with (y | ⟨p', y1, y2, y3⟩) | y
        · rcases y with ⟨k, y1, y2⟩ | ⟨k, m, y1, y2⟩
          · exact Or.inl ⟨k, by omega, y2⟩
          · exact Or.inr ⟨k, m, by omega, y2⟩
        · have y2 := (hae d p' (by omega)).mp y2
          unfold ad_cP2 at y3
          by_cases z : ad_sy g (ad_st g a + d) < 16
          · rw [if_pos z] at y3
            by_cases c : p' < n ∧ tk p' = ad_sy g (ad_st g a + d)
            · rw [if_pos c, ad_orb, ad_bit (by omega), ad_bit (by omega)] at y3
              rcases y3 with y3 | y3
              · subst y3; exact Or.inl ⟨d, by omega, y2⟩
              · exact Or.inl ⟨d + 1, by omega, p', y2, Or.inl ⟨z, c.1, c.2, y3⟩⟩
            · rw [if_neg c, ad_bit (by omega)] at y3
              subst y3; exact Or.inl ⟨d, by omega, y2⟩
          · rw [if_neg z] at y3
            exact Or.inr ⟨d, p', by omega, y2, by omega, y3⟩
        · exact Or.inl ⟨d + 1, by omega, y⟩
      · intro y
        rcases y with ⟨k, y1, y2⟩ | ⟨k, m, y1, y2, y3, y4⟩
        · by_cases ek : k = d + 1
          · subst ek; exact Or.inr y2
          · exact Or.inl (Or.inl (Or.inl ⟨k, by omega, y2⟩))
        · by_cases ek : k = d
          · subst ek
            refine Or.inl (Or.inr ⟨m, ?_, (hae k m (by omega)).mpr y2, ?_⟩)
            · have := (ad_chE_le hpn y2).2
              omega
            · unfold ad_cP2
              rw [if_neg (by omega)]
              exact y4
          · exact Or.inl (Or.inl (Or.inr ⟨k, m, by omega, y2, y3, y4⟩))
  · refine ⟨by omega, fun q => ?_⟩
    rw [ad_bit (by omega)]
    constructor
    · intro y
      exact Or.inl ⟨0, by omega, y.symm⟩
    · intro y
      rcases y with ⟨k, y1, y2⟩ | ⟨k, m, y1, y2⟩
      · have ek : k = 0 := by omega
        subst ek
        have e : p = q := y2
        exact e.symm
      · exact absurd y1 (Nat.not_lt_zero k)
theorem ay_rp {post : Int32 → Prop} {r p : Nat} (h : ad_hY g a_altRule a_altStart a_altLen a_sym) (hi : ad_hI tk n a_tok) (hex : ad_ex g tk n (ad_cY tk n a_ends)) (hr : r < 8) (hpn : p ≤ n) (hp : ∀ x, (∀ q, bt x q = true ↔ ∃ a, a < ad_C g ∧ ad_ru g a = r ∧ ad_ap g tk n a_pre a p q) → post x) : wpY_rulePre post (f_tokenLimit, f_nodeLimit, (nI (ad_C g)), (nI (ad_M g)), f_hasCurrent, f_compiled, (nI n), f_count, f_errPos, f_depth, f_lastViable, a_altRule, a_altStart, a_altLen, a_sym, a_tok, a_nSym, a_nAlt, a_nPar, a_nStart, a_nEnd, a_nAmb, a_ends, a_pre, a_flag, a_beg, a_reach, a_stNode, a_stAlt, a_stNext) (nI r) (nI p) := by
  have hC := h.1.1
  refine pk_loop (fun k i x => wY_rulePre_5 post (nI r) (nI p) f_tokenLimit f_nodeLimit (nI (ad_C g)) (nI (ad_M g)) f_hasCurrent f_compiled (nI n) f_count f_errPos f_depth f_lastViable a_altRule a_altStart a_altLen a_sym a_tok a_nSym a_nAlt a_nPar a_nStart a_nEnd a_nAmb a_ends a_pre a_flag a_beg a_reach a_stNode a_stAlt a_stNext k x (nI i)) (fun i x => ∀ q, bt x q = true ↔ ∃ a, a < i ∧ ad_ru g a = r ∧ ad_ap g tk n a_pre a p q) (ad_C g) 0 0 (by omega) (fun q => by rw [b_0]; exact ⟨fun z => (nomatch z), fun ⟨k, hk, _⟩ => absurd hk (Nat.not_lt_zero k)⟩) ?_ ?_
  · intro k x hx
    exact br_t (nI_le (by omega) (by omega)) (hp x hx)
  · intro k i x hi' hx ih
    obtain ⟨e1, e2, e3, hin, h8, h48, h16⟩ := ad_hY_a h hi'
    refine br_f (nI_ge (by omega) (by omega)) ⟨hin, ?_⟩
    rw [e1]
    refine pk_eq (ad_ru g i) r (fun e => ?_) (fun e => ?_)
    · refine ay_ap h hi hex hi' hpn fun y hy => nm_e (nm_r (nI_1 i) (ih _ fun q => ?_))
      rw [ad_orb, hx q, hy q]
      constructor
      · intro z
        rcases z with ⟨a, z1, z2⟩ | z
        · exact ⟨a, by omega, z2⟩
        · exact ⟨i, by omega, e, z⟩
      · intro ⟨a, z1, z2, z3⟩
        by_cases ea : a = i
        · subst ea; exact Or.inr z3
        · exact Or.inl ⟨a, by omega, z2, z3⟩
    · refine nm_r (nI_1 i) (ih x fun q => ?_)
      rw [hx q]
      constructor
      · intro ⟨a, z1, z2⟩
        exact ⟨a, by omega, z2⟩
      · intro ⟨a, z1, z2, z3⟩
        by_cases ea : a = i
        · subst ea; exact absurd z2 e
        · exact ⟨a, by omega, z2, z3⟩
def ad_pF (g : ad_G) (tk : Nat → Nat) (n : Nat) (pr : Nat → Int32) (t q : Nat) : Prop := ∃ a, a < ad_C g ∧ ad_ru g a = t / 13 ∧ ad_ap g tk n pr a (t % 13) q
def ad_pS (g : ad_G) (tk : Nat → Nat) (n : Nat) (t q : Nat) : Prop := ad_PR g tk n (t / 13) (t % 13) q
theorem ad_pS_ps {pr : Nat → Int32} (hn : n ≤ 12) (h : ad_wS n (ad_pS g tk n) pr) : ad_ps g tk n pr := by
  intro r p q hr hp hb
  have := h (r * 13 + p) q (by omega) (by omega) hb
  unfold ad_pS at this
  rw [show (r * 13 + p) / 13 = r by omega, show (r * 13 + p) % 13 = p by omega] at this
  exact this
theorem ay_cp {post : SY → Prop} (h : ad_hY g a_altRule a_altStart a_altLen a_sym) (hi : ad_hI tk n a_tok) (hex : ad_ex g tk n (ad_cY tk n a_ends)) (hp : ∀ pr, (∀ q, bt (pr 0) q = true ↔ ad_PR g tk n 0 0 q) → post (f_tokenLimit, f_nodeLimit, (nI (ad_C g)), (nI (ad_M g)), f_hasCurrent, f_compiled, (nI n), f_count, f_errPos, f_depth, f_lastViable, a_altRule, a_altStart, a_altLen, a_sym, a_tok, a_nSym, a_nAlt, a_nPar, a_nStart, a_nEnd, a_nAmb, a_ends, pr, a_flag, a_beg, a_reach, a_stNode, a_stAlt, a_stNext)) : wpY_computePre post (f_tokenLimit, f_nodeLimit, (nI (ad_C g)), (nI (ad_M g)), f_hasCurrent, f_compiled, (nI n), f_count, f_errPos, f_depth, f_lastViable, a_altRule, a_altStart, a_altLen, a_sym, a_tok, a_nSym, a_nAlt, a_nPar, a_nStart, a_nEnd, a_nAmb, a_ends, a_pre, a_flag, a_beg, a_reach, a_stNode, a_stAlt, a_stNext) := by
  have hn := hi.1
  have hq12 : ∀ t q, ad_pS g tk n t q → q ≤ 12 := fun t q hq => Nat.le_trans (ad_PR_le hq) hn
  refine pk_loop (fun k i en => wY_computePre_2 post f_tokenLimit f_nodeLimit (nI (ad_C g)) (nI (ad_M g)) f_hasCurrent f_compiled (nI n) f_count f_errPos f_depth f_lastViable k (nI i) a_altRule a_altStart a_altLen a_sym a_tok a_nSym a_nAlt a_nPar a_nStart a_nEnd a_nAmb a_ends en a_flag a_beg a_reach a_stNode a_stAlt a_stNext) (fun i en => ∀ t, t < i → en t = 0) 104 0 a_pre (by omega) (fun j hj => absurd hj (Nat.not_lt_zero j)) ?_ ?_
  · intro k en hen
    refine br_t (by decide) ?_
    refine pk_loop (fun k j en => wY_computePre_23 post f_tokenLimit f_nodeLimit (nI (ad_C g)) (nI (ad_M g)) f_hasCurrent f_compiled (nI n) f_count f_errPos f_depth f_lastViable k (nI j) a_altRule a_altStart a_altLen a_sym a_tok a_nSym a_nAlt a_nPar a_nStart a_nEnd a_nAmb a_ends en a_flag a_beg a_reach a_stNode a_stAlt a_stNext) (fun j en => ad_wS n (ad_pS g tk n) en ∧ j ≤ ad_mu en 1352) 1400 0 en (by omega) ⟨fun t q ht _ hb => ?_, by omega⟩ ?_ ?_
    · rw [hen t ht, b_0] at hb
      exact (nomatch hb)
    · intro k en hen
      have := ad_mu_le en 1352
      have := hen.2
      omega
    · intro k j en hj hen ih
      refine br_f (nI_ge (b := 1400) hj (by decide)) ?_
      refine lp3 (fun k' i ch en => wY_computePre_34 post (wY_computePre_23 post f_tokenLimit f_nodeLimit (nI (ad_C g)) (nI (ad_M g)) f_hasCurrent f_compiled (nI n) f_count f_errPos f_depth f_lastViable k) (nI j) f_tokenLimit f_nodeLimit (nI (ad_C g)) (nI (ad_M g)) f_hasCurrent f_compiled (nI n) f_count f_errPos f_depth f_lastViable k' ch (nI i) a_altRule a_altStart a_altLen a_sym a_tok a_nSym a_nAlt a_nPar a_nStart a_nEnd a_nAmb a_ends en a_flag a_beg a_reach a_stNode a_stAlt a_stNext) (fun i ch en => i ≤ 104 ∧ ad_sw n (ad_pF g tk n) (ad_pS g tk n) j ch i en) (fun i _ _ => 104 - i) ?_ 0 0 en ⟨by omega, hen.1, Or.inl ⟨rfl, fun t ht => absurd ht (Nat.not_lt_zero t), hen.2⟩⟩
      intro k' i ch en ⟨hi4, hsw⟩ ih'
      by_cases he : i = 104
      · subst he
        refine br_t (by decide) ?_
        rcases hsw.2 with ⟨z1, z2, z3⟩ | ⟨z1, z2⟩
        · refine br_t z1 (hp en (ad_p_end h.1 (ad_pS_ps hn hsw.1) fun r p hr hpn a q ha hra hap => ?_))
          refine z2 (r * 13 + p) (by omega) (by omega) q ⟨a, ha, by omega, ?_⟩
          rw [show (r * 13 + p) % 13 = p by omega]
          exact hap
        · subst z1
          exact br_f (by decide) (nm_r (nI_1 j) (ih en ⟨hsw.1, z2⟩))
      · have hi' : i < 104 := by omega
        have e1 : nI i / 13 = nI (i / 13) := pk_div (d := 13) (by omega) (by decide) (by decide)
        have e2 : nI i - nI i / 13 * 13 = nI (i % 13) := pk_rem (d := 13) (by omega) (by decide) (by decide)
        have hin : vp_in (nI i) 104 := vp_in_nI hi' (by omega)
        refine br_f (nI_ge (b := 104) hi' (by decide)) ⟨by decide, ?_⟩
        rw [e2, e1]
        refine pk_le (i % 13) n (fun z => ⟨by decide, by decide, ?_⟩) (fun z => nm_r (nI_1 i) (ih' (i + 1) ch en ⟨by omega, ad_sw_skip hsw fun y => absurd y (by omega)⟩ (by omega)))
        refine ay_rp h hi hex (by omega) z fun v hvb => ⟨hin, nm_e ⟨hin, ?_⟩⟩
        rw [nI_clamp (by omega)]
        by_cases hz : (v ||| en i) = en i
        · exact br_t hz (nm_r (nI_1 i) (ih' (i + 1) ch en ⟨by omega, ad_sw_same hsw (fun q hq => (hvb q).mpr hq) hz⟩ (by omega)))
        · refine br_f hz ⟨hin, nm_e (nm_r (nI_1 i) (ih' (i + 1) 1 _ ⟨by omega, ad_sw_new hq12 hsw hi' (fun q hq => ?_) z hz⟩ (by omega)))⟩
          obtain ⟨a, y1, y2, y3⟩ := (hvb q).mp hq
          show ad_PR g tk n (i / 13) (i % 13) q
          rw [← y2]
          exact ad_p_ap h.1 (ad_pS_ps hn hsw.1) y1 z y3
  · intro k i en hi' hen ih
    refine br_f (nI_ge (b := 104) hi' (by decide)) ⟨vp_in_nI hi' (by omega), ?_⟩
    rw [nI_clamp (by omega)]
    refine nm_e (nm_r (nI_1 i) (ih _ ?_))
    intro t ht
    by_cases e : t = i
    · subst e; exact pk_us
    · rw [pk_un e]; exact hen t (by omega)
theorem ay_mx {post : Int32 → SY → Prop} (hn : n ≤ 12) (hp : post 1 (f_tokenLimit, f_nodeLimit, (nI (ad_C g)), (nI (ad_M g)), f_hasCurrent, f_compiled, (nI n), 0, (nI (ad_mx (fun i => bt (a_pre 0) i) (n + 1))), f_depth, f_lastViable, a_altRule, a_altStart, a_altLen, a_sym, a_tok, a_nSym, a_nAlt, a_nPar, a_nStart, a_nEnd, a_nAmb, a_ends, a_pre, a_flag, a_beg, a_reach, a_stNode, a_stAlt, a_stNext)) : ∃ k, wY_parse_49 post f_tokenLimit f_nodeLimit (nI (ad_C g)) (nI (ad_M g)) f_hasCurrent f_compiled (nI n) f_count f_errPos f_depth f_lastViable a_altRule a_altStart a_altLen a_sym a_tok a_nSym a_nAlt a_nPar a_nStart a_nEnd a_nAmb a_ends a_pre a_flag a_beg a_reach a_stNode a_stAlt a_stNext k 0 0 := by
  refine pk_loop (fun k i x => wY_parse_49 post f_tokenLimit f_nodeLimit (nI (ad_C g)) (nI (ad_M g)) f_hasCurrent f_compiled (nI n) f_count f_errPos f_depth f_lastViable a_altRule a_altStart a_altLen a_sym a_tok a_nSym a_nAlt a_nPar a_nStart a_nEnd a_nAmb a_ends a_pre a_flag a_beg a_reach a_stNode a_stAlt a_stNext k x (nI i)) (fun i x => x = nI (ad_mx (fun i => bt (a_pre 0) i) i)) (n + 1) 0 0 (by omega) rfl ?_ ?_
  · intro k x hx
    subst hx
    exact br_t (nI_lt (by omega) (by omega)) hp
  · intro k i x hi hx ih
    subst hx
    have hnext := ih _ rfl
    refine br_f (nI_nlt (by omega) (by omega)) (ek_if (ad_has (by omega)) (fun hb => ?_) (fun hb => ?_))
    · have e : ad_mx (fun i => bt (a_pre 0) i) (i + 1) = ad_mx (fun i => bt (a_pre 0) i) i := if_neg hb
      rw [e] at hnext
      exact nm_r (nI_1 i) hnext
    · have hb : bt (a_pre 0) i = true := Classical.byContradiction hb
      have e : ad_mx (fun i => bt (a_pre 0) i) (i + 1) = i := if_pos hb
      rw [e] at hnext
      exact nm_r (nI_1 i) hnext
end
