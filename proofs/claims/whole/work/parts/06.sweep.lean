/-! ===== the reference's sweeps over 104 cells ===== -/
def ad_wS (n : Nat) (Snd : Nat → Nat → Prop) (en : Nat → Int32) : Prop := ∀ t q, t < 104 → t % 13 ≤ n → bt (en t) q = true → Snd t q
def ad_wf1 (n : Nat) (F : (Nat → Int32) → Nat → Nat → Prop) (en : Nat → Int32) (t : Nat) : Prop := t % 13 ≤ n → ∀ q, F en t q → bt (en t) q = true
def ad_sw (n : Nat) (F : (Nat → Int32) → Nat → Nat → Prop) (Snd : Nat → Nat → Prop) (j : Nat) (ch : Int32) (i : Nat) (en : Nat → Int32) : Prop :=
  ad_wS n Snd en ∧ ((ch = 0 ∧ (∀ t, t < i → ad_wf1 n F en t) ∧ j ≤ ad_mu en 1352) ∨ (ch = 1 ∧ j + 1 ≤ ad_mu en 1352))
theorem ad_sw_skip {n : Nat} {F : (Nat → Int32) → Nat → Nat → Prop} {Snd : Nat → Nat → Prop} {j i : Nat} {ch : Int32} {en : Nat → Int32} (h : ad_sw n F Snd j ch i en) (hf : ad_wf1 n F en i) : ad_sw n F Snd j ch (i + 1) en := by
  refine ⟨h.1, h.2.elim (fun z => Or.inl ⟨z.1, fun t ht => ?_, z.2.2⟩) Or.inr⟩
  by_cases e : t = i
  · rw [e]; exact hf
  · exact z.2.1 t (by omega)
theorem ad_sw_same {n : Nat} {F : (Nat → Int32) → Nat → Nat → Prop} {Snd : Nat → Nat → Prop} {j i : Nat} {ch : Int32} {en : Nat → Int32} {v : Int32} (h : ad_sw n F Snd j ch i en) (hv : ∀ q, F en i q → bt v q = true) (e : (v ||| en i) = en i) : ad_sw n F Snd j ch (i + 1) en := by
  refine ad_sw_skip h fun _ q hq => ?_
  rw [← e, ad_orb]
  exact Or.inl (hv q hq)
theorem ad_sw_new {n : Nat} {F : (Nat → Int32) → Nat → Nat → Prop} {Snd : Nat → Nat → Prop} {j i : Nat} {ch : Int32} {en : Nat → Int32} {v : Int32} (hq : ∀ t q, Snd t q → q ≤ 12) (h : ad_sw n F Snd j ch i en) (hi : i < 104) (hv : ∀ q, bt v q = true → Snd i q) (hin : i % 13 ≤ n) (e : ¬ (v ||| en i) = en i) : ad_sw n F Snd j 1 (i + 1) (upd en i (v ||| en i)) := by
  have hex : ∃ q, bt v q = true ∧ ¬ bt (en i) q = true := Classical.byContradiction fun z => e (ad_bext fun q => by
    rw [ad_orb]
    exact ⟨fun y => y.elim (fun x => Classical.byContradiction fun u => z ⟨q, x, u⟩) id, Or.inr⟩)
  obtain ⟨q, h1, h2⟩ := hex
  have hmu : ad_mu en 1352 < ad_mu (upd en i (v ||| en i)) 1352 := by
    refine ad_mu_lt 104 rfl ?_ hi (m := q) (by have := hq i q (hv q h1); omega) ?_ h2
    · intro r q hr hb
      by_cases e : r = i
      · subst e; rw [pk_us, ad_orb]; exact Or.inr hb
      · rw [pk_un e]; exact hb
    · rw [pk_us, ad_orb]; exact Or.inl h1
  refine ⟨?_, Or.inr ⟨rfl, ?_⟩⟩
  · intro t q ht htn hb
    by_cases e : t = i
    · subst e
      rw [pk_us, ad_orb] at hb
      rcases hb with hb | hb
      · exact hv q hb
      · exact h.1 t q ht htn hb
    · rw [pk_un e] at hb
      exact h.1 t q ht htn hb
  · rcases h.2 with z | z
    · have := z.2.2; omega
    · have := z.2; omega
theorem ad_mu_le (B : Nat → Int32) (N : Nat) : ad_mu B N ≤ N := ad_cn_le _ N
/-! ===== frames: what is still to be read ===== -/
def ad_Gs (g : ad_G) (E : Nat → Nat → Nat → Prop) (n : Nat) (sa sn : Nat → Nat) : Nat → Nat → Prop
  | 0, q => q = n
  | f + 1, q => ∃ q', ad_ch E (ad_sy g) (ad_st g (sa f) + sn f) (ad_ln g (sa f) - sn f) q q' ∧ ad_Gs g E n sa sn f q'
def ad_cm (g : ad_G) (n : Nat) (col : Nat → Nat → Int32) (sa sn : Nat → Nat) : Nat → Int32 → Int32
  | 0, m => m
  | f + 1, m => ad_cm g n col sa sn f (ad_ae n col (ad_sy g) (ad_st g (sa f) + sn f) (ad_ln g (sa f) - sn f) m)
theorem ad_cm_b (g : ad_G) (n : Nat) (col : Nat → Nat → Int32) (sa sn : Nat → Nat) : ∀ f m, bt (ad_cm g n col sa sn f m) n = true ↔ ∃ q, bt m q = true ∧ ad_Gs g (ad_cE n col) n sa sn f q := by
  intro f
  induction f with
  | zero =>
    intro m
    exact ⟨fun h => ⟨n, h, rfl⟩, fun ⟨q, h1, h2⟩ => by have e : q = n := h2; subst e; exact h1⟩
  | succ f ih =>
    intro m
    show bt (ad_cm g n col sa sn f (ad_ae n col (ad_sy g) (ad_st g (sa f) + sn f) (ad_ln g (sa f) - sn f) m)) n = true ↔ _
    rw [ih]
    constructor
    · intro ⟨q', h1, h2⟩
      obtain ⟨q, h3, h4⟩ := (ad_ae_b _ _ _ _ _ _ _).mp h1
      exact ⟨q, h3, q', h4, h2⟩
    · intro ⟨q, h3, q', h4, h2⟩
      exact ⟨q', (ad_ae_b _ _ _ _ _ _ _).mpr ⟨q, h3, h4⟩, h2⟩
theorem ad_Gs_eq {g : ad_G} {E : Nat → Nat → Nat → Prop} {n : Nat} {sa sn sa' sn' : Nat → Nat} : ∀ f q, (∀ i, i < f → sa i = sa' i ∧ sn i = sn' i) → (ad_Gs g E n sa sn f q ↔ ad_Gs g E n sa' sn' f q) := by
  intro f
  induction f with
  | zero => exact fun q _ => Iff.rfl
  | succ f ih =>
    intro q h
    obtain ⟨e1, e2⟩ := h f (by omega)
    show (∃ q', ad_ch E (ad_sy g) (ad_st g (sa f) + sn f) (ad_ln g (sa f) - sn f) q q' ∧ ad_Gs g E n sa sn f q') ↔ (∃ q', ad_ch E (ad_sy g) (ad_st g (sa' f) + sn' f) (ad_ln g (sa' f) - sn' f) q q' ∧ ad_Gs g E n sa' sn' f q')
    rw [e1, e2]
    constructor
    · intro ⟨q', h1, h2⟩
      exact ⟨q', h1, (ih q' (fun i hi => h i (by omega))).mp h2⟩
    · intro ⟨q', h1, h2⟩
      exact ⟨q', h1, (ih q' (fun i hi => h i (by omega))).mpr h2⟩
theorem ad_Gs_iff {g : ad_G} (w : ad_wf g) {tk : Nat → Nat} {n : Nat} {c : Nat → Nat → Int32} (h : ad_ex g tk n c) {sa sn : Nat → Nat} : ∀ f q, (∀ i, i < f → sa i < ad_C g ∧ sn i ≤ ad_ln g (sa i)) → (ad_Gs g (ad_cE n c) n sa sn f q ↔ ad_Gs g (ad_E g tk n) n sa sn f q) := by
  intro f
  induction f with
  | zero => exact fun q _ => Iff.rfl
  | succ f ih =>
    intro q hs
    obtain ⟨e1, e2⟩ := hs f (by omega)
    constructor
    · intro ⟨q', h1, h2⟩
      exact ⟨q', (ad_ex_ch w h e1 (by omega) (by omega) _ _).mp h1, (ih q' (fun i hi => hs i (by omega))).mp h2⟩
    · intro ⟨q', h1, h2⟩
      exact ⟨q', (ad_ex_ch w h e1 (by omega) (by omega) _ _).mpr h1, (ih q' (fun i hi => hs i (by omega))).mpr h2⟩
/-- set one place of a function -/
def ad_set (f : Nat → Nat) (k x : Nat) : Nat → Nat := fun j => if j = k then x else f j
theorem ad_set_s {f : Nat → Nat} {k x : Nat} : ad_set f k x k = x := if_pos rfl
theorem ad_set_n {f : Nat → Nat} {k j x : Nat} (h : j ≠ k) : ad_set f k x j = f j := if_neg h
/-- the top frame has read its next symbol -/
theorem ad_Gs_next {g : ad_G} {E : Nat → Nat → Nat → Prop} {n : Nat} {sa sn : Nat → Nat} {f q : Nat} (hl : sn f < ad_ln g (sa f)) (h : ad_Gs g E n sa sn (f + 1) q) : ∃ m, E (ad_sy g (ad_st g (sa f) + sn f)) q m ∧ ad_Gs g E n sa (ad_set sn f (sn f + 1)) (f + 1) m := by
  obtain ⟨q', h1, h2⟩ := h
  have e : ad_ln g (sa f) - sn f = (ad_ln g (sa f) - (sn f + 1)) + 1 := by omega
  rw [e, ad_ch_cons] at h1
  obtain ⟨m, h3, h4⟩ := h1
  refine ⟨m, h3, q', ?_, ?_⟩
  · rw [ad_set_s]; exact h4
  · refine (ad_Gs_eq f q' fun i hi => ⟨rfl, ?_⟩).mp h2
    rw [ad_set_n (by omega)]
/-- a new frame on top -/
theorem ad_Gs_push {g : ad_G} {E : Nat → Nat → Nat → Prop} {n : Nat} {sa sn : Nat → Nat} {f p q b : Nat} (hc : ad_ch E (ad_sy g) (ad_st g b) (ad_ln g b) p q) (h : ad_Gs g E n sa sn f q) : ad_Gs g E n (ad_set sa f b) (ad_set sn f 0) (f + 1) p := by
  refine ⟨q, ?_, ?_⟩
  · rw [ad_set_s, ad_set_s]; exact hc
  · refine (ad_Gs_eq f q fun i hi => ⟨?_, ?_⟩).mp h
    · rw [ad_set_n (by omega)]
    · rw [ad_set_n (by omega)]
