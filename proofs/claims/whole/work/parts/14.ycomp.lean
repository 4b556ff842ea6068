/-! ===== the reference: compile, the whole ===== -/
section
variable {f_tokenLimit f_nodeLimit f_altCount f_symCount f_hasCurrent f_compiled f_n f_count f_errPos f_depth f_lastViable : Int32} {a_altRule a_altStart a_altLen a_sym a_tok a_nSym a_nAlt a_nPar a_nStart a_nEnd a_nAmb a_ends a_pre a_flag a_beg a_reach a_stNode a_stAlt a_stNext : Nat → Int32}
variable {g : ad_G} {tk : Nat → Nat} {n : Nat}
theorem ay_diag {post : Int32 → SY → Prop} {re : Nat → Int32} (w : ad_wf g) (hr : ∀ r q, r < 8 → (ad_row re r q = true ↔ ad_TC (ad_bw g) r q)) (h4 : ad_lrec g → post 4 (f_tokenLimit, f_nodeLimit, (nI (ad_C g)), (nI (ad_M g)), f_hasCurrent, f_compiled, (nI n), f_count, f_errPos, f_depth, f_lastViable, a_altRule, a_altStart, a_altLen, a_sym, a_tok, a_nSym, a_nAlt, a_nPar, a_nStart, a_nEnd, a_nAmb, a_ends, a_pre, a_flag, a_beg, re, a_stNode, a_stAlt, a_stNext)) (h5 : ¬ ad_lrec g → post 0 (f_tokenLimit, f_nodeLimit, (nI (ad_C g)), (nI (ad_M g)), f_hasCurrent, 1, (nI n), f_count, f_errPos, f_depth, f_lastViable, a_altRule, a_altStart, a_altLen, a_sym, a_tok, a_nSym, a_nAlt, a_nPar, a_nStart, a_nEnd, a_nAmb, a_ends, a_pre, a_flag, a_beg, re, a_stNode, a_stAlt, a_stNext)) : ∃ k, wY_compile_227 post f_tokenLimit f_nodeLimit (nI (ad_C g)) (nI (ad_M g)) f_hasCurrent f_compiled (nI n) f_count f_errPos f_depth f_lastViable a_altRule a_altStart a_altLen a_sym a_tok a_nSym a_nAlt a_nPar a_nStart a_nEnd a_nAmb a_ends a_pre a_flag a_beg re a_stNode a_stAlt a_stNext k 0 := by
  refine pk_loop (fun k i (_ : Unit) => wY_compile_227 post f_tokenLimit f_nodeLimit (nI (ad_C g)) (nI (ad_M g)) f_hasCurrent f_compiled (nI n) f_count f_errPos f_depth f_lastViable a_altRule a_altStart a_altLen a_sym a_tok a_nSym a_nAlt a_nPar a_nStart a_nEnd a_nAmb a_ends a_pre a_flag a_beg re a_stNode a_stAlt a_stNext k (nI i)) (fun i _ => ∀ r, r < i → ¬ ad_row re r r = true) 8 0 () (by omega) (fun j hj => absurd hj (Nat.not_lt_zero j)) ?_ ?_
  · intro k _ hI
    exact br_t (by decide) (h5 fun ⟨r, z1, z2⟩ => hI r z1 ((hr r r z1).mpr z2))
  · intro k i _ hi hI ih
    refine br_f (nI_ge (b := 8) hi (by decide)) ⟨pk_in (i * 8 + i) 64 (by omega) (ad_8 i i), ?_⟩
    rw [ad_8, nI_clamp (by omega)]
    by_cases hz : re (i * 8 + i) = 0
    · refine br_t hz (nm_r (nI_1 i) (ih () ?_))
      intro r hr'
      by_cases e : r = i
      · subst e; exact fun y => (ad_row_t hi).mp y hz
      · exact hI r (by omega)
    · exact br_f hz (h4 ⟨i, hi, (hr i i hi).mp ((ad_row_t hi).mpr hz)⟩)
theorem ay_rounds {post : Int32 → SY → Prop} {re : Nat → Int32} (w : ad_wf g) (hb : ∀ r q, r < 8 → (ad_row a_beg r q = true ↔ ad_bw g r q)) (hI : ad_qI g 0 0 re) (hp : ∀ re, (∀ r q, r < 8 → (ad_row re r q = true ↔ ad_TC (ad_bw g) r q)) → ∃ k, wY_compile_227 post f_tokenLimit f_nodeLimit (nI (ad_C g)) (nI (ad_M g)) f_hasCurrent f_compiled (nI n) f_count f_errPos f_depth f_lastViable a_altRule a_altStart a_altLen a_sym a_tok a_nSym a_nAlt a_nPar a_nStart a_nEnd a_nAmb a_ends a_pre a_flag a_beg re a_stNode a_stAlt a_stNext k 0) : ∃ k, wY_compile_168 post f_tokenLimit f_nodeLimit (nI (ad_C g)) (nI (ad_M g)) f_hasCurrent f_compiled (nI n) f_count f_errPos f_depth f_lastViable k 0 a_altRule a_altStart a_altLen a_sym a_tok a_nSym a_nAlt a_nPar a_nStart a_nEnd a_nAmb a_ends a_pre a_flag a_beg re a_stNode a_stAlt a_stNext := by
  refine pk_loop (fun k j re => wY_compile_168 post f_tokenLimit f_nodeLimit (nI (ad_C g)) (nI (ad_M g)) f_hasCurrent f_compiled (nI n) f_count f_errPos f_depth f_lastViable k (nI j) a_altRule a_altStart a_altLen a_sym a_tok a_nSym a_nAlt a_nPar a_nStart a_nEnd a_nAmb a_ends a_pre a_flag a_beg re a_stNode a_stAlt a_stNext) (fun j re => ad_qI g j 0 re) 8 0 re (by omega) hI ?_ ?_
  · intro k re hI
    exact br_t (by decide) (hp re fun r q hr => ad_q_end w hI hr)
  · intro k j re hj hI ih
    refine br_f (nI_ge (b := 8) hj (by decide)) ?_
    refine pk_loop (fun k' i re => wY_compile_176 post (wY_compile_168 post f_tokenLimit f_nodeLimit (nI (ad_C g)) (nI (ad_M g)) f_hasCurrent f_compiled (nI n) f_count f_errPos f_depth f_lastViable k) (nI j) f_tokenLimit f_nodeLimit (nI (ad_C g)) (nI (ad_M g)) f_hasCurrent f_compiled (nI n) f_count f_errPos f_depth f_lastViable k' (nI i) a_altRule a_altStart a_altLen a_sym a_tok a_nSym a_nAlt a_nPar a_nStart a_nEnd a_nAmb a_ends a_pre a_flag a_beg re a_stNode a_stAlt a_stNext) (fun i re => ad_qI g j i re) 64 0 re (by omega) hI ?_ ?_
    · intro k' re hI
      exact br_t (by decide) (nm_r (nI_1 j) (ih re (ad_q_round hI)))
    · intro k' i re hi hI ih'
      have hin : vp_in (nI i) 64 := vp_in_nI hi (by omega)
      have hei : i = (i / 8) * 8 + i % 8 := by omega
      have hq8 : i % 8 < 8 := by omega
      have hr8 : i / 8 < 8 := by omega
      refine br_f (nI_ge (b := 64) hi (by decide)) ⟨hin, ?_⟩
      rw [nI_clamp (by omega)]
      by_cases hz : re i = 0
      · refine br_t hz ⟨by decide, by decide, ?_⟩
        have e1 : nI i / 8 = nI (i / 8) := pk_div (d := 8) (by omega) (by decide) (by decide)
        have e2 : nI i - nI i / 8 * 8 = nI (i % 8) := pk_rem (d := 8) (by omega) (by decide) (by decide)
        rw [e2, e1]
        refine ay_via hr8 hq8 (fun hv => ?_) (fun hv => ?_)
        · obtain ⟨k0, v1, v2, v3⟩ := hv
          refine br_f (by decide) ⟨hin, ?_⟩
          rw [ad_nb1]
          exact nm_e (nm_r (nI_1 i) (ih' _ (ad_q_step hei hr8 hq8 hI hz v1 v2 ((hb k0 _ v1).mp v3))))
        · refine br_t rfl (nm_r (nI_1 i) (ih' re (ad_q_skip hei hq8 hI fun _ hf => ?_)))
          obtain ⟨k0, v1, v2, v3⟩ := hf
          exact absurd ⟨k0, v1, v2, (hb k0 _ v1).mpr v3⟩ hv
      · refine br_f hz (nm_r (nI_1 i) (ih' re (ad_q_skip hei hq8 hI fun _ _ => ?_)))
        refine (ad_row_t hq8).mpr ?_
        rw [← hei]
        exact hz
theorem ay_copy {post : Int32 → SY → Prop} (w : ad_wf g) (hb : ∀ r q, r < 8 → (ad_row a_beg r q = true ↔ ad_bw g r q)) (hbn : ∀ t, t < 64 → vp_nar .boolean (a_beg t) = a_beg t) (hp : ∀ re, (∀ r q, r < 8 → (ad_row re r q = true ↔ ad_TC (ad_bw g) r q)) → ∃ k, wY_compile_227 post f_tokenLimit f_nodeLimit (nI (ad_C g)) (nI (ad_M g)) f_hasCurrent f_compiled (nI n) f_count f_errPos f_depth f_lastViable a_altRule a_altStart a_altLen a_sym a_tok a_nSym a_nAlt a_nPar a_nStart a_nEnd a_nAmb a_ends a_pre a_flag a_beg re a_stNode a_stAlt a_stNext k 0) : ∃ k, wY_compile_142 post f_tokenLimit f_nodeLimit (nI (ad_C g)) (nI (ad_M g)) f_hasCurrent f_compiled (nI n) f_count f_errPos f_depth f_lastViable k 0 a_altRule a_altStart a_altLen a_sym a_tok a_nSym a_nAlt a_nPar a_nStart a_nEnd a_nAmb a_ends a_pre a_flag a_beg a_reach a_stNode a_stAlt a_stNext := by
  refine pk_loop (fun k i re => wY_compile_142 post f_tokenLimit f_nodeLimit (nI (ad_C g)) (nI (ad_M g)) f_hasCurrent f_compiled (nI n) f_count f_errPos f_depth f_lastViable k (nI i) a_altRule a_altStart a_altLen a_sym a_tok a_nSym a_nAlt a_nPar a_nStart a_nEnd a_nAmb a_ends a_pre a_flag a_beg re a_stNode a_stAlt a_stNext) (fun i re => ∀ t, t < i → re t = a_beg t) 64 0 a_reach (by omega) (fun j hj => absurd hj (Nat.not_lt_zero j)) ?_ ?_
  · intro k re hre
    refine br_t (by decide) (ay_rounds w hb (ad_q_0 fun r q hr => (Iff.trans ?_ (hb r q hr))) hp)
    by_cases hq : q < 8
    · rw [ad_row_t hq, ad_row_t hq, hre _ (by omega)]
    · exact ⟨fun y => absurd (of_decide_eq_true y).1 hq, fun y => absurd (of_decide_eq_true y).1 hq⟩
  · intro k i re hi hre ih
    have hin : vp_in (nI i) 64 := vp_in_nI hi (by omega)
    refine br_f (nI_ge (b := 64) hi (by decide)) ⟨hin, hin, ?_⟩
    rw [nI_clamp (by omega), hbn i hi]
    refine nm_e (nm_r (nI_1 i) (ih _ ?_))
    intro t ht
    by_cases e : t = i
    · subst e; exact pk_us
    · rw [pk_un e]; exact hre t (by omega)
def ad_01 (b : Nat → Int32) : Prop := ∀ t, t < 64 → b t = 0 ∨ b t = 1
theorem ad_01n {b : Nat → Int32} (h : ad_01 b) : ∀ t, t < 64 → vp_nar .boolean (b t) = b t := fun t ht => by
  rcases h t ht with z | z
  · rw [z]; exact ad_nb0
  · rw [z]; exact ad_nb1
theorem ay_marks {post : Int32 → SY → Prop} (h : ad_hY g a_altRule a_altStart a_altLen a_sym) (hN : ∀ q, ad_fS a_flag q = true ↔ ad_LS g false q) (hb0 : ∀ t, t < 64 → a_beg t = 0) (hp : ∀ be re, (∀ r q, r < 8 → (ad_row re r q = true ↔ ad_TC (ad_bw g) r q)) → ∃ k, wY_compile_227 post f_tokenLimit f_nodeLimit (nI (ad_C g)) (nI (ad_M g)) f_hasCurrent f_compiled (nI n) f_count f_errPos f_depth f_lastViable a_altRule a_altStart a_altLen a_sym a_tok a_nSym a_nAlt a_nPar a_nStart a_nEnd a_nAmb a_ends a_pre a_flag be re a_stNode a_stAlt a_stNext k 0) : ∃ k, wY_compile_121 post k 0 f_tokenLimit f_nodeLimit (nI (ad_C g)) (nI (ad_M g)) f_hasCurrent f_compiled (nI n) f_count f_errPos f_depth f_lastViable a_altRule a_altStart a_altLen a_sym a_tok a_nSym a_nAlt a_nPar a_nStart a_nEnd a_nAmb a_ends a_pre a_flag a_beg a_reach a_stNode a_stAlt a_stNext := by
  have hC := h.1.1
  refine pk_loop (fun k i be => wY_compile_121 post k (nI i) f_tokenLimit f_nodeLimit (nI (ad_C g)) (nI (ad_M g)) f_hasCurrent f_compiled (nI n) f_count f_errPos f_depth f_lastViable a_altRule a_altStart a_altLen a_sym a_tok a_nSym a_nAlt a_nPar a_nStart a_nEnd a_nAmb a_ends a_pre a_flag be a_reach a_stNode a_stAlt a_stNext) (fun i be => (∀ r q, r < 8 → (ad_row be r q = true ↔ ∃ a, a < i ∧ ad_ru g a = r ∧ ad_fr g a q)) ∧ ad_01 be) (ad_C g) 0 a_beg (by omega) ⟨?_, fun t ht => Or.inl (hb0 t ht)⟩ ?_ ?_
  · intro r q hr
    constructor
    · intro y
      have hq := (of_decide_eq_true y).1
      exact absurd (hb0 _ (by omega)) (of_decide_eq_true y).2
    · intro ⟨a, ha, _⟩
      exact absurd ha (Nat.not_lt_zero a)
  · intro k be hx
    exact br_t (nI_le (by omega) (by omega)) (ay_copy h.1 hx.1 (ad_01n hx.2) (hp be))
  · intro k a be ha hx ih
    refine br_f (nI_ge (by omega) (by omega)) (ay_mb h ha hN fun be' hb' h01 => nm_r (nI_1 a) (ih be' ⟨?_, ?_⟩))
    · intro r q hr
      rw [hb' r q hr, hx.1 r q hr]
      constructor
      · intro z
        rcases z with ⟨b, z1, z2⟩ | ⟨z1, z2⟩
        · exact ⟨b, by omega, z2⟩
        · exact ⟨a, by omega, z1.symm, z2⟩
      · intro ⟨b, z1, z2, z3⟩
        by_cases e : b = a
        · subst e; exact Or.inr ⟨z2.symm, z3⟩
        · exact Or.inl ⟨b, by omega, z2, z3⟩
    · intro t ht
      rcases h01 t with z | z
      · rw [z]; exact hx.2 t ht
      · exact Or.inr z
theorem ay_zero {post : Int32 → SY → Prop} (h : ad_hY g a_altRule a_altStart a_altLen a_sym) (hN : ∀ q, ad_fS a_flag q = true ↔ ad_LS g false q) (hp : ∀ be re, (∀ r q, r < 8 → (ad_row re r q = true ↔ ad_TC (ad_bw g) r q)) → ∃ k, wY_compile_227 post f_tokenLimit f_nodeLimit (nI (ad_C g)) (nI (ad_M g)) f_hasCurrent f_compiled (nI n) f_count f_errPos f_depth f_lastViable a_altRule a_altStart a_altLen a_sym a_tok a_nSym a_nAlt a_nPar a_nStart a_nEnd a_nAmb a_ends a_pre a_flag be re a_stNode a_stAlt a_stNext k 0) : ∃ k, wY_compile_100 post f_tokenLimit f_nodeLimit (nI (ad_C g)) (nI (ad_M g)) f_hasCurrent f_compiled (nI n) f_count f_errPos f_depth f_lastViable k 0 a_altRule a_altStart a_altLen a_sym a_tok a_nSym a_nAlt a_nPar a_nStart a_nEnd a_nAmb a_ends a_pre a_flag a_beg a_reach a_stNode a_stAlt a_stNext := by
  refine pk_loop (fun k i be => wY_compile_100 post f_tokenLimit f_nodeLimit (nI (ad_C g)) (nI (ad_M g)) f_hasCurrent f_compiled (nI n) f_count f_errPos f_depth f_lastViable k (nI i) a_altRule a_altStart a_altLen a_sym a_tok a_nSym a_nAlt a_nPar a_nStart a_nEnd a_nAmb a_ends a_pre a_flag be a_reach a_stNode a_stAlt a_stNext) (fun i be => ∀ t, t < i → be t = 0) 64 0 a_beg (by omega) (fun j hj => absurd hj (Nat.not_lt_zero j)) ?_ ?_
  · intro k be hb
    exact br_t (by decide) (ay_marks h hN hb hp)
  · intro k i be hi hb ih
    refine br_f (nI_ge (b := 64) hi (by decide)) ⟨vp_in_nI hi (by omega), ?_⟩
    rw [nI_clamp (by omega), ad_nb0]
    refine nm_e (nm_r (nI_1 i) (ih _ ?_))
    intro t ht
    by_cases e : t = i
    · subst e; exact pk_us
    · rw [pk_un e]; exact hb t (by omega)
theorem ay_unp {post : Int32 → SY → Prop} (h : ad_hY g a_altRule a_altStart a_altLen a_sym) (hN : ∀ q, ad_fS a_flag q = true ↔ ad_LS g true q) (h3 : ad_unp g → post 3 (f_tokenLimit, f_nodeLimit, (nI (ad_C g)), (nI (ad_M g)), f_hasCurrent, f_compiled, (nI n), f_count, f_errPos, f_depth, f_lastViable, a_altRule, a_altStart, a_altLen, a_sym, a_tok, a_nSym, a_nAlt, a_nPar, a_nStart, a_nEnd, a_nAmb, a_ends, a_pre, a_flag, a_beg, a_reach, a_stNode, a_stAlt, a_stNext)) (hp : ¬ ad_unp g → ∀ fl be re, (∀ r q, r < 8 → (ad_row re r q = true ↔ ad_TC (ad_bw g) r q)) → ∃ k, wY_compile_227 post f_tokenLimit f_nodeLimit (nI (ad_C g)) (nI (ad_M g)) f_hasCurrent f_compiled (nI n) f_count f_errPos f_depth f_lastViable a_altRule a_altStart a_altLen a_sym a_tok a_nSym a_nAlt a_nPar a_nStart a_nEnd a_nAmb a_ends a_pre fl be re a_stNode a_stAlt a_stNext k 0) : ∃ k, wY_compile_62 post f_tokenLimit f_nodeLimit (nI (ad_C g)) (nI (ad_M g)) f_hasCurrent f_compiled (nI n) f_count f_errPos f_depth f_lastViable a_altRule a_altStart a_altLen a_sym a_tok a_nSym a_nAlt a_nPar a_nStart a_nEnd a_nAmb a_ends a_pre a_flag a_beg a_reach a_stNode a_stAlt a_stNext k 0 := by
  refine pk_loop (fun k i (_ : Unit) => wY_compile_62 post f_tokenLimit f_nodeLimit (nI (ad_C g)) (nI (ad_M g)) f_hasCurrent f_compiled (nI n) f_count f_errPos f_depth f_lastViable a_altRule a_altStart a_altLen a_sym a_tok a_nSym a_nAlt a_nPar a_nStart a_nEnd a_nAmb a_ends a_pre a_flag a_beg a_reach a_stNode a_stAlt a_stNext k (nI i)) (fun i _ => ∀ r, r < i → ad_df g r → ad_LS g true r) 8 0 () (by omega) (fun j hj => absurd hj (Nat.not_lt_zero j)) ?_ ?_
  · intro k _ hI
    refine br_t (by decide) (ay_cf (T := false) h fun fl hfl => ?_)
    exact ay_zero h hfl fun be re hre => hp (fun ⟨r, z1, z2, z3⟩ => z3 (hI r z1 z2)) fl be re hre
  · intro k i _ hi hI ih
    have hnext : (ad_df g i → ad_LS g true i) → wY_compile_62 post f_tokenLimit f_nodeLimit (nI (ad_C g)) (nI (ad_M g)) f_hasCurrent f_compiled (nI n) f_count f_errPos f_depth f_lastViable a_altRule a_altStart a_altLen a_sym a_tok a_nSym a_nAlt a_nPar a_nStart a_nEnd a_nAmb a_ends a_pre a_flag a_beg a_reach a_stNode a_stAlt a_stNext k (nI (i + 1)) := fun hf => ih () fun j hj hd => by
      by_cases e : j = i
      · subst e; exact hf hd
      · exact hI j (by omega) hd
    refine br_f (nI_ge (b := 8) hi (by decide)) (ay_df h (by omega) (fun hd => ?_) (fun hd => ?_))
    · refine br_f (by decide) ⟨vp_in_nI hi (by omega), ?_⟩
      rw [nI_clamp (by omega)]
      by_cases hz : a_flag i = 0
      · exact br_t hz (h3 ⟨i, hi, hd, fun y => (ad_fS_t hi).mp ((hN i).mpr y) hz⟩)
      · exact br_f hz (nm_r (nI_1 i) (hnext fun _ => (hN i).mp ((ad_fS_t hi).mpr hz)))
    · exact br_t rfl (nm_r (nI_1 i) (hnext fun y => absurd y hd))
theorem ay_compile {post : Int32 → SY → Prop} (h : ad_hY g a_altRule a_altStart a_altLen a_sym)
    (h1 : ¬ ad_df g 0 → post 1 (f_tokenLimit, f_nodeLimit, (nI (ad_C g)), (nI (ad_M g)), f_hasCurrent, f_compiled, (nI n), f_count, f_errPos, f_depth, f_lastViable, a_altRule, a_altStart, a_altLen, a_sym, a_tok, a_nSym, a_nAlt, a_nPar, a_nStart, a_nEnd, a_nAmb, a_ends, a_pre, a_flag, a_beg, a_reach, a_stNode, a_stAlt, a_stNext)) (h2 : ad_df g 0 → ad_und g → post 2 (f_tokenLimit, f_nodeLimit, (nI (ad_C g)), (nI (ad_M g)), f_hasCurrent, f_compiled, (nI n), f_count, f_errPos, f_depth, f_lastViable, a_altRule, a_altStart, a_altLen, a_sym, a_tok, a_nSym, a_nAlt, a_nPar, a_nStart, a_nEnd, a_nAmb, a_ends, a_pre, a_flag, a_beg, a_reach, a_stNode, a_stAlt, a_stNext)) (h3 : ∀ fl, ad_df g 0 → ¬ ad_und g → ad_unp g → post 3 (f_tokenLimit, f_nodeLimit, (nI (ad_C g)), (nI (ad_M g)), f_hasCurrent, f_compiled, (nI n), f_count, f_errPos, f_depth, f_lastViable, a_altRule, a_altStart, a_altLen, a_sym, a_tok, a_nSym, a_nAlt, a_nPar, a_nStart, a_nEnd, a_nAmb, a_ends, a_pre, fl, a_beg, a_reach, a_stNode, a_stAlt, a_stNext))
    (h4 : ∀ fl be re, ad_df g 0 → ¬ ad_und g → ¬ ad_unp g → ad_lrec g → post 4 (f_tokenLimit, f_nodeLimit, (nI (ad_C g)), (nI (ad_M g)), f_hasCurrent, f_compiled, (nI n), f_count, f_errPos, f_depth, f_lastViable, a_altRule, a_altStart, a_altLen, a_sym, a_tok, a_nSym, a_nAlt, a_nPar, a_nStart, a_nEnd, a_nAmb, a_ends, a_pre, fl, be, re, a_stNode, a_stAlt, a_stNext))
    (h5 : ∀ fl be re, ad_df g 0 → ¬ ad_und g → ¬ ad_unp g → ¬ ad_lrec g → post 0 (f_tokenLimit, f_nodeLimit, (nI (ad_C g)), (nI (ad_M g)), f_hasCurrent, 1, (nI n), f_count, f_errPos, f_depth, f_lastViable, a_altRule, a_altStart, a_altLen, a_sym, a_tok, a_nSym, a_nAlt, a_nPar, a_nStart, a_nEnd, a_nAmb, a_ends, a_pre, fl, be, re, a_stNode, a_stAlt, a_stNext)) : wpY_compile post (f_tokenLimit, f_nodeLimit, (nI (ad_C g)), (nI (ad_M g)), f_hasCurrent, f_compiled, (nI n), f_count, f_errPos, f_depth, f_lastViable, a_altRule, a_altStart, a_altLen, a_sym, a_tok, a_nSym, a_nAlt, a_nPar, a_nStart, a_nEnd, a_nAmb, a_ends, a_pre, a_flag, a_beg, a_reach, a_stNode, a_stAlt, a_stNext) := by
  have hM := h.1.2.1
  refine ay_df (r := 0) h (by omega) (fun hd => br_f (by decide) ?_) (fun hd => br_t rfl (h1 hd))
  refine pk_loop (fun k i (_ : Unit) => wY_compile_12 post f_tokenLimit f_nodeLimit (nI (ad_C g)) (nI (ad_M g)) f_hasCurrent f_compiled (nI n) f_count f_errPos f_depth f_lastViable a_altRule a_altStart a_altLen a_sym a_tok a_nSym a_nAlt a_nPar a_nStart a_nEnd a_nAmb a_ends a_pre a_flag a_beg a_reach a_stNode a_stAlt a_stNext k (nI i)) (fun i _ => ∀ j, j < i → 16 ≤ ad_sy g j → ad_df g (ad_sy g j - 16)) (ad_M g) 0 () (by omega) (fun j hj => absurd hj (Nat.not_lt_zero j)) ?_ ?_
  · intro k _ hI
    have hu : ¬ ad_und g := fun ⟨i, z1, z2, z3⟩ => z3 (hI i z1 z2)
    refine br_t (nI_le (by omega) (by omega)) (ay_cf (T := true) h fun fl hfl => ?_)
    refine ay_unp h hfl (fun hn => h3 fl hd hu hn) (fun hn fl be re hre => ay_diag h.1 hre (fun hl => h4 fl be re hd hu hn hl) (fun hl => h5 fl be re hd hu hn hl))
  · intro k i _ hi hI ih
    obtain ⟨s1, s2, s3, s4⟩ := ad_hY_s h hi
    have hnext : (16 ≤ ad_sy g i → ad_df g (ad_sy g i - 16)) → wY_compile_12 post f_tokenLimit f_nodeLimit (nI (ad_C g)) (nI (ad_M g)) f_hasCurrent f_compiled (nI n) f_count f_errPos f_depth f_lastViable a_altRule a_altStart a_altLen a_sym a_tok a_nSym a_nAlt a_nPar a_nStart a_nEnd a_nAmb a_ends a_pre a_flag a_beg a_reach a_stNode a_stAlt a_stNext k (nI (i + 1)) := fun hf => ih () fun j hj hs => by
      by_cases e : j = i
      · subst e; exact hf hs
      · exact hI j (by omega) hs
    refine br_f (nI_ge (by omega) (by omega)) ⟨s2, ?_⟩
    rw [s1]
    refine pk_lt (ad_sy g i) 16 (fun z => nm_r (nI_1 i) (hnext fun y => absurd y (by omega))) (fun z => ⟨s2, ?_⟩)
    rw [ad_16 z]
    refine ay_df h (by omega) (fun hb => ?_) (fun hb => ?_)
    · exact br_f (by decide) (nm_r (nI_1 i) (hnext fun _ => hb))
    · exact br_t rfl (h2 hd ⟨i, hi, z, hb⟩)
end
