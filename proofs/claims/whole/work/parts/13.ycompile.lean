/-! ===== the reference: compile ===== -/
theorem ad_hY_a {g : ad_G} {aR aS aL sym : Nat → Int32} (h : ad_hY g aR aS aL sym) {a : Nat} (ha : a < ad_C g) : aR (nI a).toNatClampNeg = nI (ad_ru g a) ∧ aS (nI a).toNatClampNeg = nI (ad_st g a) ∧ aL (nI a).toNatClampNeg = nI (ad_ln g a) ∧ vp_in (nI a) 16 ∧ ad_ru g a < 8 ∧ ad_st g a + ad_ln g a ≤ 48 ∧ a < 16 := by
  obtain ⟨w, h1, h2⟩ := h
  have hC := w.1
  have hM := w.2.1
  have h3 := w.2.2.1 a ha
  rw [nI_clamp (by omega)]
  obtain ⟨e1, e2, e3⟩ := h1 a ha
  exact ⟨e1, e2, e3, vp_in_nI (by omega) (by omega), h3.1, by omega, by omega⟩
theorem ad_hY_s {g : ad_G} {aR aS aL sym : Nat → Int32} (h : ad_hY g aR aS aL sym) {i : Nat} (hi : i < ad_M g) : sym (nI i).toNatClampNeg = nI (ad_sy g i) ∧ vp_in (nI i) 48 ∧ ad_sy g i < 24 ∧ i < 48 := by
  obtain ⟨w, h1, h2⟩ := h
  have hM := w.2.1
  rw [nI_clamp (by omega)]
  exact ⟨h2 i hi, vp_in_nI (by omega) (by omega), w.2.2.2 i hi, by omega⟩
theorem ad_hY_k {g : ad_G} {aR aS aL sym : Nat → Int32} (h : ad_hY g aR aS aL sym) {a k : Nat} (ha : a < ad_C g) (hk : k < ad_ln g a) : sym (aS (nI a).toNatClampNeg + nI k).toNatClampNeg = nI (ad_sy g (ad_st g a + k)) ∧ vp_in (aS (nI a).toNatClampNeg + nI k) 48 ∧ ad_sy g (ad_st g a + k) < 24 ∧ ad_st g a + k < 48 := by
  have h1 := (h.1.2.2.1 a ha).2
  have h2 := (ad_hY_a h ha).2.1
  rw [h2, nI_add]
  exact ad_hY_s h (by omega)
def ad_fS (fl : Nat → Int32) : Nat → Bool := fun r => decide (r < 8 ∧ ¬ fl r = 0)
theorem ad_fS_t {fl : Nat → Int32} {r : Nat} (hr : r < 8) : ad_fS fl r = true ↔ ¬ fl r = 0 := by
  unfold ad_fS
  rw [decide_eq_true_iff]
  exact ⟨fun z => z.2, fun z => ⟨hr, z⟩⟩
theorem ad_row_t {re : Nat → Int32} {r q : Nat} (hq : q < 8) : ad_row re r q = true ↔ ¬ re (r * 8 + q) = 0 := by
  unfold ad_row
  rw [decide_eq_true_iff]
  exact ⟨fun z => z.2, fun z => ⟨hq, z⟩⟩
theorem ad_8 (s i : Nat) : nI s * 8 + nI i = nI (s * 8 + i) := by
  show nI s * nI 8 + nI i = _
  rw [pk_mul, nI_add]
theorem ad_8s {r s : Nat} (h : 16 ≤ s) : nI r * 8 + nI s - 16 = nI (r * 8 + (s - 16)) := by
  rw [ad_8]
  show nI (r * 8 + s) - nI 16 = _
  rw [pk_sub (by omega)]
  exact congrArg nI (by omega)
section
variable {f_tokenLimit f_nodeLimit f_altCount f_symCount f_hasCurrent f_compiled f_n f_count f_errPos f_depth f_lastViable : Int32} {a_altRule a_altStart a_altLen a_sym a_tok a_nSym a_nAlt a_nPar a_nStart a_nEnd a_nAmb a_ends a_pre a_flag a_beg a_reach a_stNode a_stAlt a_stNext : Nat → Int32}
variable {g : ad_G} {tk : Nat → Nat} {n : Nat}
theorem ay_df {post : Int32 → Prop} {r : Nat} (h : ad_hY g a_altRule a_altStart a_altLen a_sym) (hr : r < 32) (h1 : ad_df g r → post 1) (h0 : ¬ ad_df g r → post 0) : wpY_defined post (f_tokenLimit, f_nodeLimit, (nI (ad_C g)), (nI (ad_M g)), f_hasCurrent, f_compiled, (nI n), f_count, f_errPos, f_depth, f_lastViable, a_altRule, a_altStart, a_altLen, a_sym, a_tok, a_nSym, a_nAlt, a_nPar, a_nStart, a_nEnd, a_nAmb, a_ends, a_pre, a_flag, a_beg, a_reach, a_stNode, a_stAlt, a_stNext) (nI r) := by
  have hC := h.1.1
  refine pk_loop (fun k i (_ : Unit) => wY_defined_2 post (nI r) f_tokenLimit f_nodeLimit (nI (ad_C g)) (nI (ad_M g)) f_hasCurrent f_compiled (nI n) f_count f_errPos f_depth f_lastViable a_altRule a_altStart a_altLen a_sym a_tok a_nSym a_nAlt a_nPar a_nStart a_nEnd a_nAmb a_ends a_pre a_flag a_beg a_reach a_stNode a_stAlt a_stNext k (nI i)) (fun i _ => ∀ a, a < i → ¬ ad_ru g a = r) (ad_C g) 0 () (by omega) (fun j hj => absurd hj (Nat.not_lt_zero j)) ?_ ?_
  · intro k _ hI
    exact br_t (nI_le (by omega) (by omega)) (h0 fun ⟨a, z1, z2⟩ => hI a z1 z2)
  · intro k i _ hi hI ih
    obtain ⟨e1, e2, e3, hin, h8, h48, h16⟩ := ad_hY_a h hi
    refine br_f (nI_ge (by omega) (by omega)) ⟨hin, ?_⟩
    rw [e1]
    refine pk_eq (ad_ru g i) r (fun e => h1 ⟨i, hi, e⟩) (fun e => nm_r (nI_1 i) (ih () ?_))
    intro a ha
    by_cases ea : a = i
    · subst ea; exact e
    · exact hI a (by omega)
theorem ay_ao {post : Int32 → Prop} {T : Bool} {a : Nat} (h : ad_hY g a_altRule a_altStart a_altLen a_sym) (ha : a < ad_C g) (h1 : ad_ok g T (fun r => ad_fS a_flag r = true) a → post 1) (h0 : ¬ ad_ok g T (fun r => ad_fS a_flag r = true) a → post 0) : wpY_altOk post (f_tokenLimit, f_nodeLimit, (nI (ad_C g)), (nI (ad_M g)), f_hasCurrent, f_compiled, (nI n), f_count, f_errPos, f_depth, f_lastViable, a_altRule, a_altStart, a_altLen, a_sym, a_tok, a_nSym, a_nAlt, a_nPar, a_nStart, a_nEnd, a_nAmb, a_ends, a_pre, a_flag, a_beg, a_reach, a_stNode, a_stAlt, a_stNext) (nI a) (ad_bI (!T)) := by
  obtain ⟨e1, e2, e3, hin, h8, h48, h16⟩ := ad_hY_a h ha
  refine pk_loop (fun k d (_ : Unit) => wY_altOk_2 post (nI a) (ad_bI (!T)) f_tokenLimit f_nodeLimit (nI (ad_C g)) (nI (ad_M g)) f_hasCurrent f_compiled (nI n) f_count f_errPos f_depth f_lastViable a_altRule a_altStart a_altLen a_sym a_tok a_nSym a_nAlt a_nPar a_nStart a_nEnd a_nAmb a_ends a_pre a_flag a_beg a_reach a_stNode a_stAlt a_stNext k (nI d)) (fun d _ => ∀ k, k < d → (ad_sy g (ad_st g a + k) < 16 ∧ T = true) ∨ (16 ≤ ad_sy g (ad_st g a + k) ∧ ad_fS a_flag (ad_sy g (ad_st g a + k) - 16) = true)) (ad_ln g a) 0 () (by omega) (fun j hj => absurd hj (Nat.not_lt_zero j)) ?_ ?_
  · intro k _ hI
    refine ⟨hin, br_t ?_ (h1 hI)⟩
    rw [e3]
    exact nI_le (by omega) (by omega)
  · intro k d _ hd hI ih
    obtain ⟨s1, s2, s3, s4⟩ := ad_hY_k h ha hd
    have hnext : ((ad_sy g (ad_st g a + d) < 16 ∧ T = true) ∨ (16 ≤ ad_sy g (ad_st g a + d) ∧ ad_fS a_flag (ad_sy g (ad_st g a + d) - 16) = true)) → wY_altOk_2 post (nI a) (ad_bI (!T)) f_tokenLimit f_nodeLimit (nI (ad_C g)) (nI (ad_M g)) f_hasCurrent f_compiled (nI n) f_count f_errPos f_depth f_lastViable a_altRule a_altStart a_altLen a_sym a_tok a_nSym a_nAlt a_nPar a_nStart a_nEnd a_nAmb a_ends a_pre a_flag a_beg a_reach a_stNode a_stAlt a_stNext k (nI (d + 1)) := fun hf => ih () fun j hj => by
      by_cases e : j = d
      · subst e; exact hf
      · exact hI j (by omega)
    refine ⟨hin, br_f ?_ ⟨hin, s2, nm_r s1 ?_⟩⟩
    · rw [e3]
      exact nI_ge (by omega) (by omega)
    refine pk_le 16 (ad_sy g (ad_st g a + d)) (fun z => ?_) (fun z => ?_)
    · rw [ad_16 z, nI_clamp (by omega)]
      refine ⟨vp_in_nI (by omega) (by omega), ?_⟩
      by_cases hb : a_flag (ad_sy g (ad_st g a + d) - 16) = 0
      · refine br_t hb (h0 fun ho => ?_)
        rcases ho d hd with y | y
        · omega
        · exact (ad_fS_t (by omega)).mp y.2 hb
      · exact br_f hb (nm_r (nI_1 d) (hnext (Or.inr ⟨z, (ad_fS_t (by omega)).mpr hb⟩)))
    · cases T
      · refine br_f (by decide) (h0 fun ho => ?_)
        rcases ho d hd with y | y
        · exact (nomatch y.2)
        · omega
      · exact br_t rfl (nm_r (nI_1 d) (hnext (Or.inl ⟨z, rfl⟩)))
theorem ay_cf {post : SY → Prop} {T : Bool} (h : ad_hY g a_altRule a_altStart a_altLen a_sym) (hp : ∀ fl, (∀ q, ad_fS fl q = true ↔ ad_LS g T q) → post (f_tokenLimit, f_nodeLimit, (nI (ad_C g)), (nI (ad_M g)), f_hasCurrent, f_compiled, (nI n), f_count, f_errPos, f_depth, f_lastViable, a_altRule, a_altStart, a_altLen, a_sym, a_tok, a_nSym, a_nAlt, a_nPar, a_nStart, a_nEnd, a_nAmb, a_ends, a_pre, fl, a_beg, a_reach, a_stNode, a_stAlt, a_stNext)) : wpY_computeFlags post (f_tokenLimit, f_nodeLimit, (nI (ad_C g)), (nI (ad_M g)), f_hasCurrent, f_compiled, (nI n), f_count, f_errPos, f_depth, f_lastViable, a_altRule, a_altStart, a_altLen, a_sym, a_tok, a_nSym, a_nAlt, a_nPar, a_nStart, a_nEnd, a_nAmb, a_ends, a_pre, a_flag, a_beg, a_reach, a_stNode, a_stAlt, a_stNext) (ad_bI (!T)) := by
  have hC := h.1.1
  refine pk_loop (fun k i fl => wY_computeFlags_2 post (ad_bI (!T)) f_tokenLimit f_nodeLimit (nI (ad_C g)) (nI (ad_M g)) f_hasCurrent f_compiled (nI n) f_count f_errPos f_depth f_lastViable k (nI i) a_altRule a_altStart a_altLen a_sym a_tok a_nSym a_nAlt a_nPar a_nStart a_nEnd a_nAmb a_ends a_pre fl a_beg a_reach a_stNode a_stAlt a_stNext) (fun i fl => ∀ r, r < i → fl r = 0) 8 0 a_flag (by omega) (fun t ht => absurd ht (Nat.not_lt_zero t)) ?_ ?_
  · intro k fl hf
    refine br_t (by decide) ?_
    refine pk_loop (fun k j fl => wY_computeFlags_23 post (ad_bI (!T)) f_tokenLimit f_nodeLimit (nI (ad_C g)) (nI (ad_M g)) f_hasCurrent f_compiled (nI n) f_count f_errPos f_depth f_lastViable k (nI j) a_altRule a_altStart a_altLen a_sym a_tok a_nSym a_nAlt a_nPar a_nStart a_nEnd a_nAmb a_ends a_pre fl a_beg a_reach a_stNode a_stAlt a_stNext) (fun j fl => ad_mI g T j 0 (ad_fS fl)) 9 0 fl (by omega) (ad_m_0 fun r hr => ?_) ?_ ?_
    · have hr8 : r < 8 := (of_decide_eq_true hr).1
      exact (ad_fS_t hr8).mp hr (hf r hr8)
    · intro k fl hf
      exact br_t (by decide) (hp fl fun q => ad_m_end h.1 (by omega) hf q)
    · intro k j fl hj hf ih
      refine br_f (nI_ge (b := 9) hj (by decide)) ?_
      refine pk_loop (fun k' a fl => wY_computeFlags_31 post (wY_computeFlags_23 post (ad_bI (!T)) f_tokenLimit f_nodeLimit (nI (ad_C g)) (nI (ad_M g)) f_hasCurrent f_compiled (nI n) f_count f_errPos f_depth f_lastViable k) (ad_bI (!T)) (nI j) f_tokenLimit f_nodeLimit (nI (ad_C g)) (nI (ad_M g)) f_hasCurrent f_compiled (nI n) f_count f_errPos f_depth f_lastViable k' (nI a) a_altRule a_altStart a_altLen a_sym a_tok a_nSym a_nAlt a_nPar a_nStart a_nEnd a_nAmb a_ends a_pre fl a_beg a_reach a_stNode a_stAlt a_stNext) (fun a fl => ad_mI g T j a (ad_fS fl)) (ad_C g) 0 fl (by omega) hf ?_ ?_
      · intro k' fl hf
        exact br_t (nI_le (by omega) (by omega)) (nm_r (nI_1 j) (ih fl (ad_m_round hf)))
      · intro k' a fl ha hf ih'
        obtain ⟨e1, e2, e3, hin, h8, h48, h16⟩ := ad_hY_a h ha
        have hin8 : vp_in (nI (ad_ru g a)) 8 := vp_in_nI h8 (by omega)
        refine br_f (nI_ge (by omega) (by omega)) ⟨hin, ?_⟩
        rw [e1, nI_clamp (by omega)]
        refine ⟨hin8, ?_⟩
        by_cases hz : fl (ad_ru g a) = 0
        · refine br_t hz (ay_ao h ha (fun ho => ?_) (fun ho => ?_))
          · refine br_f (by decide) ⟨hin, hin8, nm_e (nm_r (nI_1 a) (ih' _ (ad_m_step h.1 ha hf ho fun r => ?_)))⟩
            rw [ad_nb1]
            by_cases er : r = ad_ru g a
            · subst er
              rw [ad_fS_t h8, pk_us]
              exact ⟨fun _ => Or.inr rfl, fun _ => by decide⟩
            · unfold ad_fS
              rw [pk_un er]
              exact ⟨Or.inl, fun z => z.elim id (fun y => absurd y er)⟩
          · exact br_t rfl (nm_r (nI_1 a) (ih' fl (ad_m_skip hf fun z => absurd z ho)))
        · exact br_f hz (nm_r (nI_1 a) (ih' fl (ad_m_skip hf fun _ => (ad_fS_t h8).mpr hz)))
  · intro k i fl hi hf ih
    refine br_f (nI_ge (b := 8) hi (by decide)) ⟨vp_in_nI hi (by omega), ?_⟩
    rw [nI_clamp (by omega)]
    refine nm_e (nm_r (nI_1 i) (ih _ ?_))
    intro r hr
    by_cases e : r = i
    · subst e; rw [pk_us]; exact ad_nb0
    · rw [pk_un e]; exact hf r (by omega)
theorem ay_mb {post : SY → Prop} {a : Nat} (h : ad_hY g a_altRule a_altStart a_altLen a_sym) (ha : a < ad_C g) (hN : ∀ q, ad_fS a_flag q = true ↔ ad_LS g false q) (hp : ∀ be, (∀ r q, r < 8 → (ad_row be r q = true ↔ ad_row a_beg r q = true ∨ (r = ad_ru g a ∧ ad_fr g a q))) → (∀ t, be t = a_beg t ∨ be t = 1) → post (f_tokenLimit, f_nodeLimit, (nI (ad_C g)), (nI (ad_M g)), f_hasCurrent, f_compiled, (nI n), f_count, f_errPos, f_depth, f_lastViable, a_altRule, a_altStart, a_altLen, a_sym, a_tok, a_nSym, a_nAlt, a_nPar, a_nStart, a_nEnd, a_nAmb, a_ends, a_pre, a_flag, be, a_reach, a_stNode, a_stAlt, a_stNext)) : wpY_markBegins post (f_tokenLimit, f_nodeLimit, (nI (ad_C g)), (nI (ad_M g)), f_hasCurrent, f_compiled, (nI n), f_count, f_errPos, f_depth, f_lastViable, a_altRule, a_altStart, a_altLen, a_sym, a_tok, a_nSym, a_nAlt, a_nPar, a_nStart, a_nEnd, a_nAmb, a_ends, a_pre, a_flag, a_beg, a_reach, a_stNode, a_stAlt, a_stNext) (nI a) := by
  obtain ⟨e1, e2, e3, hin, h8, h48, h16⟩ := ad_hY_a h ha
  refine ⟨hin, nm_r e1 ?_⟩
  refine pk_loop (fun k d be => wY_markBegins_9 post (nI a) (nI (ad_ru g a)) f_tokenLimit f_nodeLimit (nI (ad_C g)) (nI (ad_M g)) f_hasCurrent f_compiled (nI n) f_count f_errPos f_depth f_lastViable k (nI d) a_altRule a_altStart a_altLen a_sym a_tok a_nSym a_nAlt a_nPar a_nStart a_nEnd a_nAmb a_ends a_pre a_flag be a_reach a_stNode a_stAlt a_stNext) (fun d be => (∀ j, j < d → 16 ≤ ad_sy g (ad_st g a + j) ∧ ad_LS g false (ad_sy g (ad_st g a + j) - 16)) ∧ (∀ r q, r < 8 → (ad_row be r q = true ↔ ad_row a_beg r q = true ∨ (r = ad_ru g a ∧ ∃ k, k < d ∧ ad_sy g (ad_st g a + k) = 16 + q))) ∧ ∀ t, be t = a_beg t ∨ be t = 1) (ad_ln g a) 0 a_beg (by omega) ⟨fun j hj => absurd hj (Nat.not_lt_zero j), fun r q _ => ⟨Or.inl, fun z => z.elim id (fun ⟨_, k, hk, _⟩ => absurd hk (Nat.not_lt_zero k))⟩, fun t => Or.inl rfl⟩ ?_ ?_
  · intro k be hx
    refine ⟨hin, br_t ?_ (hp be (fun r q hr => (hx.2.1 r q hr).trans ?_) hx.2.2)⟩
    · rw [e3]
      exact nI_le (by omega) (by omega)
    · rw [ad_fr_end (Nat.le_refl _) hx.1 (fun z => absurd z (Nat.lt_irrefl _))]
  · intro k d be hd hx ih
    obtain ⟨s1, s2, s3, s4⟩ := ad_hY_k h ha hd
    refine ⟨hin, br_f ?_ ⟨hin, s2, nm_r s1 ?_⟩⟩
    · rw [e3]
      exact nI_ge (by omega) (by omega)
    refine pk_le 16 (ad_sy g (ad_st g a + d)) (fun z => ?_) (fun z => ?_)
    · rw [ad_8s z, nI_clamp (by omega), ad_16 z, nI_clamp (by omega), ad_nb1]
      refine ⟨vp_in_nI (by omega) (by omega), nm_e ⟨vp_in_nI (by omega) (by omega), ?_⟩⟩
      have hx' : ∀ r q, r < 8 → (ad_row (upd be (ad_ru g a * 8 + (ad_sy g (ad_st g a + d) - 16)) 1) r q = true ↔ ad_row a_beg r q = true ∨ (r = ad_ru g a ∧ ∃ k, k < d + 1 ∧ ad_sy g (ad_st g a + k) = 16 + q)) := by
        intro r q hr
        by_cases hq : q < 8
        · rw [ad_row_t hq]
          by_cases e : r * 8 + q = ad_ru g a * 8 + (ad_sy g (ad_st g a + d) - 16)
          · rw [e, pk_us]
            exact ⟨fun _ => Or.inr ⟨by omega, d, by omega, by omega⟩, fun _ => by decide⟩
          · rw [pk_un e, ← ad_row_t hq, hx.2.1 r q hr]
            constructor
            · intro y
              rcases y with y | ⟨y1, k, y2, y3⟩
              · exact Or.inl y
              · exact Or.inr ⟨y1, k, by omega, y3⟩
            · intro y
              rcases y with y | ⟨y1, k, y2, y3⟩
              · exact Or.inl y
              · refine Or.inr ⟨y1, k, ?_, y3⟩
                by_cases ek : k = d
                · subst ek; subst y1; omega
                · omega
        · constructor
          · intro y
            exact absurd (of_decide_eq_true y).1 hq
          · intro y
            rcases y with y | ⟨y1, k, y2, y3⟩
            · exact absurd (of_decide_eq_true y).1 hq
            · have := ad_wsy h.1 ha (k := k) (by omega)
              omega
      have hx3 : ∀ t, upd be (ad_ru g a * 8 + (ad_sy g (ad_st g a + d) - 16)) 1 t = a_beg t ∨ upd be (ad_ru g a * 8 + (ad_sy g (ad_st g a + d) - 16)) 1 t = 1 := by
        intro t
        by_cases e : t = ad_ru g a * 8 + (ad_sy g (ad_st g a + d) - 16)
        · rw [e, pk_us]; exact Or.inr rfl
        · rw [pk_un e]; exact hx.2.2 t
      by_cases hz : a_flag (ad_sy g (ad_st g a + d) - 16) = 0
      · refine br_t hz (hp _ (fun r q hr => (hx' r q hr).trans ?_) hx3)
        rw [ad_fr_stop hd hx.1 (fun y => (ad_fS_t (by omega)).mp ((hN _).mpr y) hz)]
      · refine br_f hz (nm_r (nI_1 d) (ih _ ⟨?_, hx', hx3⟩))
        intro j hj
        by_cases e : j = d
        · subst e; exact ⟨z, (hN _).mp ((ad_fS_t (by omega)).mpr hz)⟩
        · exact hx.1 j (by omega)
    · refine hp be (fun r q hr => (hx.2.1 r q hr).trans ?_) hx.2.2
      rw [ad_fr_end (by omega) hx.1 (fun _ => z)]
theorem ay_via {post : Int32 → Prop} {r q : Nat} (hr : r < 8) (hq : q < 8) (h1 : (∃ k, k < 8 ∧ ad_row a_reach r k = true ∧ ad_row a_beg k q = true) → post 1) (h0 : ¬ (∃ k, k < 8 ∧ ad_row a_reach r k = true ∧ ad_row a_beg k q = true) → post 0) : wpY_via post (f_tokenLimit, f_nodeLimit, (nI (ad_C g)), (nI (ad_M g)), f_hasCurrent, f_compiled, (nI n), f_count, f_errPos, f_depth, f_lastViable, a_altRule, a_altStart, a_altLen, a_sym, a_tok, a_nSym, a_nAlt, a_nPar, a_nStart, a_nEnd, a_nAmb, a_ends, a_pre, a_flag, a_beg, a_reach, a_stNode, a_stAlt, a_stNext) (nI r) (nI q) := by
  refine pk_loop (fun k i (_ : Unit) => wY_via_2 post (nI r) (nI q) f_tokenLimit f_nodeLimit (nI (ad_C g)) (nI (ad_M g)) f_hasCurrent f_compiled (nI n) f_count f_errPos f_depth f_lastViable a_altRule a_altStart a_altLen a_sym a_tok a_nSym a_nAlt a_nPar a_nStart a_nEnd a_nAmb a_ends a_pre a_flag a_beg a_reach a_stNode a_stAlt a_stNext k (nI i)) (fun i _ => ∀ k, k < i → ¬ (ad_row a_reach r k = true ∧ ad_row a_beg k q = true)) 8 0 () (by omega) (fun j hj => absurd hj (Nat.not_lt_zero j)) ?_ ?_
  · intro k _ hI
    exact br_t (by decide) (h0 fun ⟨k, z1, z2⟩ => hI k z1 z2)
  · intro k i _ hi hI ih
    have hnext : ¬ (ad_row a_reach r i = true ∧ ad_row a_beg i q = true) → wY_via_2 post (nI r) (nI q) f_tokenLimit f_nodeLimit (nI (ad_C g)) (nI (ad_M g)) f_hasCurrent f_compiled (nI n) f_count f_errPos f_depth f_lastViable a_altRule a_altStart a_altLen a_sym a_tok a_nSym a_nAlt a_nPar a_nStart a_nEnd a_nAmb a_ends a_pre a_flag a_beg a_reach a_stNode a_stAlt a_stNext k (nI (i + 1)) := fun hf => ih () fun j hj => by
      by_cases e : j = i
      · subst e; exact hf
      · exact hI j (by omega)
    refine br_f (nI_ge (b := 8) hi (by decide)) ⟨pk_in (r * 8 + i) 64 (by omega) (ad_8 r i), ?_⟩
    rw [ad_8, nI_clamp (by omega)]
    by_cases hz : a_reach (r * 8 + i) = 0
    · exact br_t hz (nm_r (nI_1 i) (hnext fun y => (ad_row_t hi).mp y.1 hz))
    · refine br_f hz ⟨pk_in (i * 8 + q) 64 (by omega) (ad_8 i q), ?_⟩
      rw [ad_8, nI_clamp (by omega)]
      by_cases hz2 : a_beg (i * 8 + q) = 0
      · exact br_t hz2 (nm_r (nI_1 i) (hnext fun y => (ad_row_t hq).mp y.2 hz2))
      · exact br_f hz2 (h1 ⟨i, hi, (ad_row_t hi).mpr hz, (ad_row_t hq).mpr hz2⟩)
end
