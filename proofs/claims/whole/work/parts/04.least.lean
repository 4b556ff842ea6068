/-! ===== the reference's ends ===== -/
theorem ad_cY_ts {tk : Nat → Nat} {n : Nat} (hn : n < 31) {en : Nat → Int32} (s p q : Nat) : ad_cE n (ad_cY tk n en) s p q ↔ ad_ts tk n (fun r p q => bt (en (r * 13 + p)) q = true) s p q := by
  unfold ad_cE ad_cY ad_ts
  by_cases hs : s < 16
  · rw [if_pos hs]
    by_cases hc : p < n ∧ tk p = s
    · rw [if_pos hc, ad_bit (by omega)]
      exact ⟨fun z => Or.inl ⟨hs, hc.1, hc.2, z.2⟩, fun z => ⟨by omega, z.elim (fun y => y.2.2.2) (fun y => absurd y.1 (by omega))⟩⟩
    · rw [if_neg hc, b_0]
      exact ⟨fun z => (nomatch z.2), fun z => z.elim (fun y => absurd ⟨y.2.1, y.2.2.1⟩ hc) (fun y => absurd y.1 (by omega))⟩
  · rw [if_neg hs]
    exact ⟨fun z => Or.inr ⟨by omega, z⟩, fun z => z.elim (fun y => absurd y.1 hs) (fun y => y.2)⟩
/-- the reference's array of ends: sound -/
def ad_ys (g : ad_G) (tk : Nat → Nat) (n : Nat) (en : Nat → Int32) : Prop := ∀ r p q, r < 8 → p ≤ n → bt (en (r * 13 + p)) q = true → ad_LR g tk n r p q
/-- closed at one cell -/
def ad_yc (g : ad_G) (tk : Nat → Nat) (n : Nat) (en : Nat → Int32) (r p : Nat) : Prop := ∀ a q, a < ad_C g → ad_ru g a = r → ad_ch (ad_cE n (ad_cY tk n en)) (ad_sy g) (ad_st g a) (ad_ln g a) p q → bt (en (r * 13 + p)) q = true
theorem ad_y_ex {g : ad_G} (w : ad_wf g) {tk : Nat → Nat} {n : Nat} (hn : n < 31) {en : Nat → Int32} (hs : ad_ys g tk n en) (hc : ∀ r p, r < 8 → p ≤ n → ad_yc g tk n en r p) : ad_ex g tk n (ad_cY tk n en) := by
  have hcl : ad_clo g tk n (fun r p q => bt (en (r * 13 + p)) q = true) := by
    intro a ha p hp q hch
    refine hc (ad_ru g a) p (w.2.2.1 a ha).1 hp a q ha rfl ?_
    exact (ad_ch_iff _ p q fun k _ p q => ad_cY_ts hn _ p q).mpr hch
  intro s p q h24 hp
  have h1 := ad_cY_ts (tk := tk) hn (en := en) s p q
  constructor
  · intro h
    rcases h1.mp ⟨hp, h⟩ with z | z
    · exact Or.inl z
    · exact Or.inr ⟨z.1, z.2.1, hs _ p q (by omega) hp z.2.2⟩
  · intro h
    refine (h1.mpr ?_).2
    rcases h with z | z
    · exact Or.inl z
    · exact Or.inr ⟨z.1, z.2.1, z.2.2 _ hcl⟩
/-- a sound array's chain is a chain of the least relation -/
theorem ad_y_ch {g : ad_G} (w : ad_wf g) {tk : Nat → Nat} {n : Nat} (hn : n < 31) {en : Nat → Int32} (hs : ad_ys g tk n en) {a p q : Nat} (ha : a < ad_C g) (hp : p ≤ n) (h : ad_ch (ad_cE n (ad_cY tk n en)) (ad_sy g) (ad_st g a) (ad_ln g a) p q) : ad_LR g tk n (ad_ru g a) p q := by
  refine ad_LR_c g tk n a ha p hp q ?_
  have key : ∀ d p q, d ≤ ad_ln g a → ad_ch (ad_cE n (ad_cY tk n en)) (ad_sy g) (ad_st g a) d p q → ad_ch (ad_ts tk n (ad_LR g tk n)) (ad_sy g) (ad_st g a) d p q := by
    intro d
    induction d with
    | zero => exact fun p q _ e => e
    | succ d ih =>
      intro p q hd ⟨m, h1, h2⟩
      refine ⟨m, ih p m (by omega) h1, ?_⟩
      have h24 := ad_wsy w ha (k := d) (by omega)
      rcases (ad_cY_ts hn _ _ _).mp h2 with z | z
      · exact Or.inl z
      · exact Or.inr ⟨z.1, z.2.1, hs _ _ _ (by omega) z.2.1 z.2.2⟩
  exact key _ p q (Nat.le_refl _) h
/-! ===== the component's spans ===== -/
def ad_xT (tk : Nat → Nat) (n : Nat) (sp : Nat → Int32) : Prop := ∀ s p q, s < 16 → p ≤ n → (bt (sp (s * 13 + p)) q = true ↔ p < n ∧ tk p = s ∧ q = p + 1)
def ad_xS (g : ad_G) (tk : Nat → Nat) (n : Nat) (sp : Nat → Int32) : Prop := ∀ r p q, r < 8 → p ≤ n → bt (sp ((16 + r) * 13 + p)) q = true → ad_LR g tk n r p q
def ad_xC (g : ad_G) (tk : Nat → Nat) (n : Nat) (sp : Nat → Int32) (p : Nat) : Prop := ∀ r q, r < 8 → ad_LR g tk n r p q → bt (sp ((16 + r) * 13 + p)) q = true
/-- all places from P on are done -/
def ad_xI (g : ad_G) (tk : Nat → Nat) (n : Nat) (P : Nat) (sp : Nat → Int32) : Prop := ad_xT tk n sp ∧ ad_xS g tk n sp ∧ ∀ p, P ≤ p → p ≤ n → ad_xC g tk n sp p
/-- and at P the rules of rank below j, and of rank j those of the alternatives before a -/
def ad_xJ (g : ad_G) (tk : Nat → Nat) (n : Nat) (rk : Nat → Nat) (P j a : Nat) (sp : Nat → Int32) : Prop :=
  ad_xI g tk n (P + 1) sp ∧ (∀ r q, r < 8 → rk r < j → ad_LR g tk n r P q → bt (sp ((16 + r) * 13 + P)) q = true) ∧
    ∀ b q, b < a → rk (ad_ru g b) ≤ j → ad_ch (ad_E g tk n) (ad_sy g) (ad_st g b) (ad_ln g b) P q → bt (sp ((16 + ad_ru g b) * 13 + P)) q = true
theorem ad_xJ_0 {g : ad_G} {tk : Nat → Nat} {n : Nat} {rk : Nat → Nat} {P : Nat} {sp : Nat → Int32} (h : ad_xI g tk n (P + 1) sp) : ad_xJ g tk n rk P 0 0 sp :=
  ⟨h, fun r q _ z => absurd z (Nat.not_lt_zero _), fun b q z => absurd z (Nat.not_lt_zero b)⟩
theorem ad_xJ_r {g : ad_G} {tk : Nat → Nat} {n : Nat} {rk : Nat → Nat} {P j : Nat} {sp : Nat → Int32} (h : ad_xJ g tk n rk P j (ad_C g) sp) : ad_xJ g tk n rk P (j + 1) 0 sp := by
  refine ⟨h.1, ?_, fun b q z => absurd z (Nat.not_lt_zero b)⟩
  intro r q hr hk hl
  obtain ⟨a, ha, e, hp, hc⟩ := ad_LR_i hl
  subst e
  exact h.2.2 a q ha (by omega) hc
theorem ad_xJ_e {g : ad_G} {tk : Nat → Nat} {n : Nat} {rk : Nat → Nat} (hk : ∀ r, r < 8 → rk r < 8) {P : Nat} {sp : Nat → Int32} (h : ad_xJ g tk n rk P 8 0 sp) : ad_xI g tk n P sp := by
  refine ⟨h.1.1, h.1.2.1, ?_⟩
  intro p hp hn
  by_cases e : p = P
  · subst e
    exact fun r q hr hl => h.2.1 r q hr (hk r hr) hl
  · exact h.1.2.2 p (by omega) hn
theorem ad_LR_8 {g : ad_G} (w : ad_wf g) {tk : Nat → Nat} {n r p q : Nat} (h : ad_LR g tk n r p q) : r < 8 := by
  obtain ⟨a, ha, e, _⟩ := ad_LR_i h
  have := (w.2.2.1 a ha).1
  omega
/-- what an array's columns hold is sound -/
theorem ad_x_E {g : ad_G} {tk : Nat → Nat} {n : Nat} {sp : Nat → Int32} (hT : ad_xT tk n sp) (hS : ad_xS g tk n sp) {s p q : Nat} (hs : s < 24) (h : ad_cE n (ad_cX sp) s p q) : ad_E g tk n s p q := by
  obtain ⟨h1, h2⟩ := h
  by_cases z : s < 16
  · obtain ⟨z1, z2, z3⟩ := (hT s p q z h1).mp h2
    exact Or.inl ⟨z, z1, z2, z3⟩
  · refine Or.inr ⟨by omega, h1, hS (s - 16) p q (by omega) h1 ?_⟩
    have e : 16 + (s - 16) = s := by omega
    rw [e]
    exact h2
theorem ad_xJ_s {g : ad_G} (w : ad_wf g) {tk : Nat → Nat} {n : Nat} (hn : n ≤ 12) {rk : Nat → Nat} (hr : ∀ r q, ad_bw g r q → rk q < rk r) {P j a : Nat} (hP : P ≤ n) (ha : a < ad_C g) {sp : Nat → Int32} (h : ad_xJ g tk n rk P j a sp) :
    ad_xJ g tk n rk P j (a + 1) (upd sp ((16 + ad_ru g a) * 13 + P) (sp ((16 + ad_ru g a) * 13 + P) ||| ad_ae n (ad_cX sp) (ad_sy g) (ad_st g a) (ad_ln g a) ((1 : Int32) <<< (nI P &&& 31)))) := by
  obtain ⟨⟨hT, hS, hC⟩, hR, hA⟩ := h
  have hra := (w.2.2.1 a ha).1
  generalize hv : ad_ae n (ad_cX sp) (ad_sy g) (ad_st g a) (ad_ln g a) ((1 : Int32) <<< (nI P &&& 31)) = v
  have hvb : ∀ q, bt v q = true ↔ ad_ch (ad_cE n (ad_cX sp)) (ad_sy g) (ad_st g a) (ad_ln g a) P q := fun q => by
    rw [← hv]
    exact ad_ae_1 n (ad_cX sp) (ad_sy g) _ _ (by omega) q
  generalize hk : (16 + ad_ru g a) * 13 + P = K
  have hmono : ∀ i q, bt (sp i) q = true → bt (upd sp K (sp K ||| v) i) q = true := by
    intro i q hb
    by_cases e : i = K
    · subst e
      rw [pk_us, ad_orb]
      exact Or.inl hb
    · rw [pk_un e]
      exact hb
  have hvs : ∀ q, bt v q = true → ad_LR g tk n (ad_ru g a) P q := by
    intro q hb
    refine ad_LR_c g tk n a ha P hP q ?_
    have key : ∀ d q, d ≤ ad_ln g a → ad_ch (ad_cE n (ad_cX sp)) (ad_sy g) (ad_st g a) d P q → ad_ch (ad_ts tk n (ad_LR g tk n)) (ad_sy g) (ad_st g a) d P q := by
      intro d
      induction d with
      | zero => exact fun q _ e => e
      | succ d ih =>
        intro q hd ⟨m, h1, h2⟩
        exact ⟨m, ih m (by omega) h1, ad_x_E hT hS (ad_wsy w ha (by omega)) h2⟩
    exact key _ q (Nat.le_refl _) ((hvb q).mp hb)
  refine ⟨⟨?_, ?_, ?_⟩, ?_, ?_⟩
  · intro s p q hs hp
    rw [pk_un (by omega)]
    exact hT s p q hs hp
  · intro r p q hr8 hp hb
    by_cases e : (16 + r) * 13 + p = K
    · rw [e, pk_us, ad_orb] at hb
      rcases hb with hb | hb
      · rw [← e] at hb
        exact hS r p q hr8 hp hb
      · have e1 : r = ad_ru g a := by omega
        have e2 : p = P := by omega
        rw [e1, e2]
        exact hvs q hb
    · rw [pk_un e] at hb
      exact hS r p q hr8 hp hb
  · intro p hp1 hp2 r q hr8 hl
    exact hmono _ _ (hC p hp1 hp2 r q hr8 hl)
  · intro r q hr8 hrk hl
    exact hmono _ _ (hR r q hr8 hrk hl)
  · intro b q hb hrk hc
    by_cases e : b = a
    · subst e
      rw [hk, pk_us, ad_orb]
      refine Or.inr ((hvb q).mpr ?_)
      refine (ad_key (E' := ad_cE n (ad_cX sp)) hr ?_ ?_ ?_ ha hrk _ q (Nat.le_refl _) hc).1
      · intro s p q hs he
        rcases he with z | z
        · exact ⟨by omega, (hT s p q hs (by omega)).mpr z.2⟩
        · exact absurd z.1 (by omega)
      · intro s p q hp he
        have hpn := ad_E_n he
        refine ⟨hpn, ?_⟩
        rcases he with z | z
        · exact (hT s p q z.1 (by omega)).mpr z.2
        · have h8 := ad_LR_8 w z.2.2
          have := hC p (by omega) hpn (s - 16) q h8 z.2.2
          rw [show 16 + (s - 16) = s by omega] at this
          exact this
      · intro s q hs hrk2 he
        have hpn := ad_E_n he
        refine ⟨hpn, ?_⟩
        rcases he with z | z
        · exact absurd z.1 (by omega)
        · have h8 := ad_LR_8 w z.2.2
          have := hR (s - 16) q h8 hrk2 z.2.2
          rw [show 16 + (s - 16) = s by omega] at this
          exact this
    · exact hmono _ _ (hA b q (by omega) hrk hc)
theorem ad_x_ex {g : ad_G} {tk : Nat → Nat} {n : Nat} {sp : Nat → Int32} (h : ad_xI g tk n 0 sp) : ad_ex g tk n (ad_cX sp) := by
  intro s p q hs hp
  constructor
  · intro hb
    exact ad_x_E h.1 h.2.1 hs ⟨hp, hb⟩
  · intro he
    rcases he with z | z
    · exact (h.1 s p q z.1 hp).mpr z.2
    · have := h.2.2 p (by omega) hp (s - 16) q (by omega) z.2.2
      rw [show 16 + (s - 16) = s by omega] at this
      exact this
