/-! ===== growing the tree: what both sides hold ===== -/
theorem ad_uu {f : Nat → Int32} {k : Nat} {x y : Int32} : upd (upd f k x) k y = upd f k y := by
  funext j
  by_cases e : j = k
  · subst e; rw [pk_us, pk_us]
  · rw [pk_un e, pk_un e, pk_un e]
theorem ad_uid {f : Nat → Int32} {k : Nat} : upd f k (f k) = f := by
  funext j
  by_cases e : j = k
  · subst e; rw [pk_us]
  · rw [pk_un e]
def ad_TF (g : ad_G) (tk : Nat → Nat) (n c d : Nat) (nd sa sn : Nat → Nat) (nx sto go par yN yA yX : Nat → Int32) : Prop :=
  ∀ f, f < d → nd f < c ∧ sa f < ad_C g ∧ sn f ≤ ad_ln g (sa f) ∧ yN f = nI (nd f) ∧ yA f = nI (sa f) ∧ yX f = nI (sn f) ∧ nx (nd f) = nI (ad_st g (sa f) + sn f) ∧ sto (nd f) = nI (ad_st g (sa f) + ad_ln g (sa f)) ∧
    par (nd f) = (if f = 0 then -1 else nI (nd (f - 1))) ∧ (∀ q, bt (go (nd f)) q = true ↔ ad_Gs g (ad_E g tk n) n sa sn f q) ∧ (∀ f', f' < f → nd f' < nd f)
def ad_TI (g : ad_G) (tk : Nat → Nat) (n lim c d pos step : Nat) (nd sa sn : Nat → Nat) (nx sto go par alt amb en yN yA yX yE : Nat → Int32) : Prop :=
  1 ≤ c ∧ c ≤ lim ∧ lim ≤ 64 ∧ d ≤ c ∧ step + d + 1 ≤ 2 * c ∧ pos ≤ n ∧ ad_Gs g (ad_E g tk n) n sa sn d pos ∧ ad_TF g tk n c d nd sa sn nx sto go par yN yA yX ∧
    (∀ i, i < c → (∀ f, f < d → nd f ≠ i) → en i = yE i) ∧ (∀ i, amb i = 0 ∨ (amb i = 1 ∧ 0 < alt i))
section
variable {g : ad_G} {tk : Nat → Nat} {n lim c pos step : Nat} {nd sa sn : Nat → Nat} {nx sto go par alt amb en yN yA yX yE : Nat → Int32}
theorem ad_TI_close {f : Nat} (h : ad_TI g tk n lim c (f + 1) pos step nd sa sn nx sto go par alt amb en yN yA yX yE) (hf : sn f = ad_ln g (sa f)) :
    ad_TI g tk n lim c f pos (step + 1) nd sa sn nx sto go par alt amb (upd en (nd f) (nI pos)) yN yA yX (upd yE (nd f) (nI pos)) := by
  obtain ⟨h1, h2, h3, h4, h5, h6, h7, h8, h9, h10⟩ := h
  refine ⟨h1, h2, h3, by omega, by omega, h6, ?_, fun f' hf' => h8 f' (by omega), ?_, h10⟩
  · obtain ⟨q', a1, a2⟩ := h7
    rw [hf, Nat.sub_self] at a1
    have e : pos = q' := a1
    rw [e]
    exact a2
  · intro i hi hn
    by_cases e : i = nd f
    · rw [e, pk_us, pk_us]
    · rw [pk_un e, pk_un e]
      refine h9 i hi fun f' hf' => ?_
      by_cases e2 : f' = f
      · rw [e2]; exact fun z => e z.symm
      · exact hn f' (by omega)
/-- the frame that has taken its next symbol: everything but the place -/
theorem ad_TF_next {f : Nat} (h8 : ad_TF g tk n c (f + 1) nd sa sn nx sto go par yN yA yX) (hl : sn f < ad_ln g (sa f)) :
    ad_TF g tk n c (f + 1) nd sa (ad_set sn f (sn f + 1)) (upd nx (nd f) (nI (ad_st g (sa f) + sn f + 1))) sto go par yN yA (upd yX f (nI (sn f + 1))) := by
  intro f' hf'
  obtain ⟨b1, b2, b3, b4, b5, b6, b7, b8, b9, b10, b11⟩ := h8 f' hf'
  have hG : ∀ q, bt (go (nd f')) q = true ↔ ad_Gs g (ad_E g tk n) n sa (ad_set sn f (sn f + 1)) f' q := fun q =>
    (b10 q).trans (ad_Gs_eq f' q fun i hi => ⟨rfl, by rw [ad_set_n (by omega)]⟩)
  by_cases e : f' = f
  · subst e
    refine ⟨b1, b2, ?_, b4, b5, ?_, ?_, b8, b9, hG, b11⟩
    · rw [ad_set_s]; omega
    · rw [pk_us, ad_set_s]
    · rw [pk_us, ad_set_s]; rfl
  · have hlt : nd f' < nd f := by
      have := (h8 f (by omega)).2.2.2.2.2.2.2.2.2.2
      exact this f' (by omega)
    refine ⟨b1, b2, ?_, b4, b5, ?_, ?_, b8, b9, hG, b11⟩
    · rw [ad_set_n e]; exact b3
    · rw [pk_un e, ad_set_n e]; exact b6
    · rw [pk_un (by omega), ad_set_n e]; exact b7
theorem ad_TF_keep {d : Nat} {nx' sto' go' par' : Nat → Int32} (h8 : ad_TF g tk n c d nd sa sn nx sto go par yN yA yX) (h : ∀ i, i < c → nx' i = nx i ∧ sto' i = sto i ∧ go' i = go i ∧ par' i = par i) : ad_TF g tk n (c + 1) d nd sa sn nx' sto' go' par' yN yA yX := by
  intro f hf
  obtain ⟨b1, b2, b3, b4, b5, b6, b7, b8, b9, b10, b11⟩ := h8 f hf
  obtain ⟨e1, e2, e3, e4⟩ := h (nd f) b1
  rw [e1, e2, e3, e4]
  exact ⟨by omega, b2, b3, b4, b5, b6, b7, b8, b9, b10, b11⟩
theorem ad_TI_tok {f : Nat} (h : ad_TI g tk n lim c (f + 1) pos step nd sa sn nx sto go par alt amb en yN yA yX yE) (hl : sn f < ad_ln g (sa f)) (hs : ad_sy g (ad_st g (sa f) + sn f) < 16) (hc : c < lim) (P : Int32) :
    pos < n ∧ ad_TI g tk n lim (c + 1) (f + 1) (pos + 1) (step + 1) nd sa (ad_set sn f (sn f + 1)) (upd nx (nd f) (nI (ad_st g (sa f) + sn f + 1))) sto go (upd par c P) (upd alt c 0) (upd amb c 0) (upd en c (nI (pos + 1))) yN yA (upd yX f (nI (sn f + 1))) (upd yE c (nI (pos + 1))) := by
  obtain ⟨h1, h2, h3, h4, h5, h6, h7, h8, h9, h10⟩ := h
  obtain ⟨m, a1, a2⟩ := ad_Gs_next hl h7
  have hm : pos < n ∧ m = pos + 1 := by
    rcases a1 with z | z
    · exact ⟨z.2.1, z.2.2.2⟩
    · exact absurd z.1 (by omega)
  obtain ⟨hp, rfl⟩ := hm
  refine ⟨hp, by omega, by omega, h3, by omega, by omega, by omega, a2, ?_, ?_, ?_⟩
  · refine ad_TF_keep (ad_TF_next h8 hl) fun i hi => ⟨rfl, rfl, rfl, ?_⟩
    rw [pk_un (by omega)]
  · intro i hi hn
    by_cases e : i = c
    · rw [e, pk_us, pk_us]
    · rw [pk_un e, pk_un e]
      exact h9 i (by omega) hn
  · intro i
    by_cases e : i = c
    · rw [e, pk_us]; exact Or.inl rfl
    · rw [pk_un e, pk_un e]; exact h10 i
theorem ad_TI_rule {f b : Nat} {num G am Y : Int32} (h : ad_TI g tk n lim c (f + 1) pos step nd sa sn nx sto go par alt amb en yN yA yX yE) (hl : sn f < ad_ln g (sa f)) (hc : c < lim) (hb : b < ad_C g) (hnum : 0 < num) (ham : am = 0 ∨ am = 1)
    (hG : ∀ q, bt G q = true ↔ ad_Gs g (ad_E g tk n) n sa (ad_set sn f (sn f + 1)) (f + 1) q)
    (hv : ∃ q, ad_ch (ad_E g tk n) (ad_sy g) (ad_st g b) (ad_ln g b) pos q ∧ bt G q = true) :
    ad_TI g tk n lim (c + 1) (f + 2) pos (step + 1) (ad_set nd (f + 1) c) (ad_set sa (f + 1) b) (ad_set (ad_set sn f (sn f + 1)) (f + 1) 0)
      (upd (upd nx (nd f) (nI (ad_st g (sa f) + sn f + 1))) c (nI (ad_st g b))) (upd sto c (nI (ad_st g b + ad_ln g b))) (upd go c G) (upd par c (nI (nd f))) (upd alt c num) (upd amb c am) en
      (upd yN (f + 1) (nI c)) (upd yA (f + 1) (nI b)) (upd (upd yX f (nI (sn f + 1))) (f + 1) 0) (upd yE c Y) := by
  obtain ⟨h1, h2, h3, h4, h5, h6, h7, h8, h9, h10⟩ := h
  obtain ⟨q, hv1, hv2⟩ := hv
  refine ⟨by omega, by omega, h3, by omega, by omega, h6, ad_Gs_push hv1 ((hG q).mp hv2), ?_, ?_, ?_⟩
  · have h8n := ad_TF_next h8 hl
    intro f' hf'
    by_cases e : f' = f + 1
    · subst e
      rw [ad_set_s, ad_set_s, ad_set_s, pk_us, pk_us, pk_us, pk_us, pk_us, pk_us, pk_us]
      refine ⟨by omega, hb, by omega, rfl, rfl, rfl, rfl, rfl, ?_, ?_, ?_⟩
      · rw [if_neg (by omega), show f + 1 - 1 = f by omega, ad_set_n (by omega)]
      · intro q
        refine (hG q).trans (ad_Gs_eq (f + 1) q fun i hi => ⟨?_, ?_⟩)
        · rw [ad_set_n (by omega)]
        · exact (ad_set_n (by omega)).symm
      · intro f' hf'
        rw [ad_set_n (by omega)]
        exact (h8 f' hf').1
    · have hlt : f' < f + 1 := by omega
      obtain ⟨b1, b2, b3, b4, b5, b6, b7, b8, b9, b10, b11⟩ := h8n f' hlt
      have hne : nd f' ≠ c := by omega
      rw [ad_set_n e, ad_set_n e, ad_set_n e, pk_un e, pk_un e, pk_un e, pk_un hne, pk_un hne, pk_un hne, pk_un hne]
      refine ⟨by omega, b2, b3, b4, b5, b6, b7, b8, ?_, ?_, ?_⟩
      · rw [b9]
        by_cases e0 : f' = 0
        · rw [if_pos e0, if_pos e0]
        · rw [if_neg e0, if_neg e0, ad_set_n (by omega)]
      · intro q
        refine (b10 q).trans (ad_Gs_eq f' q fun i hi => ⟨?_, ?_⟩)
        · rw [ad_set_n (by omega)]
        · exact (ad_set_n (by omega)).symm
      · intro i hi
        rw [ad_set_n (by omega)]
        exact b11 i hi
  · intro i hi hn
    have hic : i ≠ c := by
      have := hn (f + 1) (by omega)
      rw [ad_set_s] at this
      exact fun z => this z.symm
    rw [pk_un hic]
    refine h9 i (by omega) fun f' hf' => ?_
    have := hn f' (by omega)
    rw [ad_set_n (by omega)] at this
    exact this
  · intro i
    by_cases e : i = c
    · rw [e, pk_us, pk_us]
      rcases ham with z | z
      · exact Or.inl z
      · exact Or.inr ⟨z, hnum⟩
    · rw [pk_un e, pk_un e]; exact h10 i
/-- a rule symbol can be taken: there is an alternative -/
theorem ad_TI_some {f : Nat} (h : ad_TI g tk n lim c (f + 1) pos step nd sa sn nx sto go par alt amb en yN yA yX yE) (hl : sn f < ad_ln g (sa f)) (hs : 16 ≤ ad_sy g (ad_st g (sa f) + sn f)) :
    ∃ a q, a < ad_C g ∧ ad_ru g a = ad_sy g (ad_st g (sa f) + sn f) - 16 ∧ ad_ch (ad_E g tk n) (ad_sy g) (ad_st g a) (ad_ln g a) pos q ∧ ad_Gs g (ad_E g tk n) n sa (ad_set sn f (sn f + 1)) (f + 1) q := by
  obtain ⟨h1, h2, h3, h4, h5, h6, h7, h8, h9, h10⟩ := h
  obtain ⟨m, a1, a2⟩ := ad_Gs_next hl h7
  rcases a1 with z | z
  · exact absurd z.1 (by omega)
  · obtain ⟨a, ha, e, _, hc⟩ := ad_LR_i z.2.2
    exact ⟨a, m, ha, e, hc, a2⟩
end
