/-! ===== images of sets of places ===== -/
/-- the union of c p over the p below k in m -/
def ad_pa (c : Nat → Int32) (m : Int32) : Nat → Int32
  | 0 => 0
  | p + 1 => if bt m p = true then ad_pa c m p ||| c p else ad_pa c m p
theorem ad_pa_b (c : Nat → Int32) (m : Int32) (q : Nat) : ∀ k, bt (ad_pa c m k) q = true ↔ ∃ p, p < k ∧ bt m p = true ∧ bt (c p) q = true := by
  intro k
  induction k with
  | zero =>
    show bt 0 q = true ↔ _
    rw [b_0]
    exact ⟨fun z => (nomatch z), fun ⟨p, hp, _⟩ => absurd hp (Nat.not_lt_zero p)⟩
  | succ k ih =>
    show bt (if bt m k = true then ad_pa c m k ||| c k else ad_pa c m k) q = true ↔ _
    by_cases hb : bt m k = true
    · rw [if_pos hb, ad_orb, ih]
      constructor
      · intro h
        rcases h with ⟨p, h1, h2⟩ | h
        · exact ⟨p, by omega, h2⟩
        · exact ⟨k, by omega, hb, h⟩
      · intro ⟨p, h1, h2, h3⟩
        by_cases e : p = k
        · subst e; exact Or.inr h3
        · exact Or.inl ⟨p, by omega, h2, h3⟩
    · rw [if_neg hb, ih]
      constructor
      · intro ⟨p, h1, h2⟩
        exact ⟨p, by omega, h2⟩
      · intro ⟨p, h1, h2, h3⟩
        by_cases e : p = k
        · subst e; exact absurd h2 hb
        · exact ⟨p, by omega, h2, h3⟩
theorem ad_pa_eq {c c' : Nat → Int32} {m : Int32} : ∀ k, (∀ p, p < k → c p = c' p) → ad_pa c m k = ad_pa c' m k := by
  intro k
  induction k with
  | zero => exact fun _ => rfl
  | succ k ih =>
    intro h
    show (if bt m k = true then ad_pa c m k ||| c k else ad_pa c m k) = (if bt m k = true then ad_pa c' m k ||| c' k else ad_pa c' m k)
    rw [ih (fun p hp => h p (by omega)), h k (by omega)]
/-- the relation that columns hold -/
def ad_cE (n : Nat) (col : Nat → Nat → Int32) (s p q : Nat) : Prop := p ≤ n ∧ bt (col s p) q = true
/-- d symbols from i on -/
def ad_ae (n : Nat) (col : Nat → Nat → Int32) (sy : Nat → Nat) (i : Nat) : Nat → Int32 → Int32
  | 0, m => m
  | d + 1, m => ad_pa (col (sy (i + d))) (ad_ae n col sy i d m) (n + 1)
theorem ad_ae_b (n : Nat) (col : Nat → Nat → Int32) (sy : Nat → Nat) (i : Nat) (m : Int32) : ∀ d q, bt (ad_ae n col sy i d m) q = true ↔ ∃ p, bt m p = true ∧ ad_ch (ad_cE n col) sy i d p q := by
  intro d
  induction d with
  | zero =>
    intro q
    exact ⟨fun h => ⟨q, h, rfl⟩, fun ⟨p, h1, h2⟩ => by have e : p = q := h2; subst e; exact h1⟩
  | succ d ih =>
    intro q
    show bt (ad_pa (col (sy (i + d))) (ad_ae n col sy i d m) (n + 1)) q = true ↔ _
    rw [ad_pa_b]
    constructor
    · intro ⟨k, h1, h2, h3⟩
      obtain ⟨p, h4, h5⟩ := (ih k).mp h2
      exact ⟨p, h4, k, h5, by omega, h3⟩
    · intro ⟨p, h4, k, h5, h6, h7⟩
      exact ⟨k, by omega, (ih k).mpr ⟨p, h4, h5⟩, h7⟩
theorem ad_ae_1 (n : Nat) (col : Nat → Nat → Int32) (sy : Nat → Nat) (i d : Nat) {p : Nat} (hp : p < 32) (q : Nat) : bt (ad_ae n col sy i d ((1 : Int32) <<< (nI p &&& 31))) q = true ↔ ad_ch (ad_cE n col) sy i d p q := by
  rw [ad_ae_b]
  constructor
  · intro ⟨p', h1, h2⟩
    rw [ad_bit hp] at h1
    subst h1
    exact h2
  · intro h
    exact ⟨p, (ad_bit hp p).mpr rfl, h⟩
theorem ad_ae_eq {n : Nat} {col col' : Nat → Nat → Int32} {sy : Nat → Nat} {i : Nat} {m : Int32} : ∀ d, (∀ k p, k < d → p ≤ n → col (sy (i + k)) p = col' (sy (i + k)) p) → ad_ae n col sy i d m = ad_ae n col' sy i d m := by
  intro d
  induction d with
  | zero => exact fun _ => rfl
  | succ d ih =>
    intro h
    show ad_pa (col (sy (i + d))) (ad_ae n col sy i d m) (n + 1) = ad_pa (col' (sy (i + d))) (ad_ae n col' sy i d m) (n + 1)
    rw [ih (fun k p hk hp => h k p (by omega) hp)]
    exact ad_pa_eq _ (fun p hp => h d p (by omega) (by omega))
/-- the places below k from which c leads into e -/
def ad_pb (c : Nat → Int32) (e : Int32) : Nat → Int32
  | 0 => 0
  | p + 1 => if (c p &&& e) = 0 then ad_pb c e p else ad_pb c e p ||| ((1 : Int32) <<< (nI p &&& 31))
theorem ad_pb_b (c : Nat → Int32) (e : Int32) (p : Nat) : ∀ k, k ≤ 32 → (bt (ad_pb c e k) p = true ↔ p < k ∧ ∃ q, bt (c p) q = true ∧ bt e q = true) := by
  intro k
  induction k with
  | zero =>
    intro _
    show bt 0 p = true ↔ _
    rw [b_0]
    exact ⟨fun z => (nomatch z), fun ⟨hp, _⟩ => absurd hp (Nat.not_lt_zero p)⟩
  | succ k ih =>
    intro hk
    have ih := ih (by omega)
    show bt (if (c k &&& e) = 0 then ad_pb c e k else ad_pb c e k ||| ((1 : Int32) <<< (nI k &&& 31))) p = true ↔ _
    by_cases hz : (c k &&& e) = 0
    · rw [if_pos hz, ih]
      rw [ad_and0] at hz
      constructor
      · intro ⟨h1, h2⟩
        exact ⟨by omega, h2⟩
      · intro ⟨h1, h2⟩
        by_cases e2 : p = k
        · subst e2; exact absurd h2 hz
        · exact ⟨by omega, h2⟩
    · rw [if_neg hz, ad_orb, ih, ad_bit (by omega)]
      have hz2 : ∃ q, bt (c k) q = true ∧ bt e q = true := Classical.byContradiction fun z => hz ((ad_and0 _ _).mpr z)
      constructor
      · intro h
        rcases h with ⟨h1, h2⟩ | h
        · exact ⟨by omega, h2⟩
        · subst h; exact ⟨by omega, hz2⟩
      · intro ⟨h1, h2⟩
        by_cases e2 : p = k
        · exact Or.inr e2
        · exact Or.inl ⟨by omega, h2⟩
/-- the last d symbols before stop, backwards -/
def ad_gl (n : Nat) (col : Nat → Nat → Int32) (sy : Nat → Nat) (stop : Nat) : Nat → Int32 → Int32
  | 0, e => e
  | d + 1, e => ad_pb (col (sy (stop - (d + 1)))) (ad_gl n col sy stop d e) (n + 1)
theorem ad_gl_b {n : Nat} (hn : n < 32) (col : Nat → Nat → Int32) (sy : Nat → Nat) (stop : Nat) (e : Int32) : ∀ d p, d ≤ stop → (bt (ad_gl n col sy stop d e) p = true ↔ ∃ q, ad_ch (ad_cE n col) sy (stop - d) d p q ∧ bt e q = true) := by
  intro d
  induction d with
  | zero =>
    intro p _
    exact ⟨fun h => ⟨p, rfl, h⟩, fun ⟨q, h1, h2⟩ => by have e : p = q := h1; subst e; exact h2⟩
  | succ d ih =>
    intro p hd
    have ea : stop - (d + 1) + 1 = stop - d := by omega
    show bt (ad_pb (col (sy (stop - (d + 1)))) (ad_gl n col sy stop d e) (n + 1)) p = true ↔ _
    rw [ad_pb_b _ _ _ _ (by omega)]
    constructor
    · intro ⟨h1, m, h2, h3⟩
      obtain ⟨q, h4, h5⟩ := (ih m (by omega)).mp h3
      refine ⟨q, (ad_ch_cons d p q).mpr ⟨m, ⟨by omega, h2⟩, ?_⟩, h5⟩
      rw [ea]; exact h4
    · intro ⟨q, h4, h5⟩
      obtain ⟨m, ⟨h1, h2⟩, h6⟩ := (ad_ch_cons d p q).mp h4
      rw [ea] at h6
      exact ⟨by omega, m, h2, (ih m (by omega)).mpr ⟨q, h6, h5⟩⟩
/-! ===== columns that hold the least relation ===== -/
def ad_cX (sp : Nat → Int32) (s p : Nat) : Int32 := sp (s * 13 + p)
def ad_cY (tk : Nat → Nat) (n : Nat) (en : Nat → Int32) (s p : Nat) : Int32 :=
  if s < 16 then (if p < n ∧ tk p = s then (1 : Int32) <<< (nI (p + 1) &&& 31) else 0) else en ((s - 16) * 13 + p)
/-- columns are exact -/
def ad_ex (g : ad_G) (tk : Nat → Nat) (n : Nat) (col : Nat → Nat → Int32) : Prop := ∀ s p q, s < 24 → p ≤ n → (bt (col s p) q = true ↔ ad_E g tk n s p q)
theorem ad_ex_eq {g : ad_G} {tk : Nat → Nat} {n : Nat} {c c' : Nat → Nat → Int32} (h : ad_ex g tk n c) (h' : ad_ex g tk n c') {s p : Nat} (hs : s < 24) (hp : p ≤ n) : c s p = c' s p :=
  ad_bext fun q => (h s p q hs hp).trans (h' s p q hs hp).symm
theorem ad_E_n {g : ad_G} {tk : Nat → Nat} {n s p q : Nat} (h : ad_E g tk n s p q) : p ≤ n := by
  rcases h with h | h
  · omega
  · exact h.2.1
theorem ad_ex_cE {g : ad_G} {tk : Nat → Nat} {n : Nat} {c : Nat → Nat → Int32} (h : ad_ex g tk n c) {s p q : Nat} (hs : s < 24) : ad_cE n c s p q ↔ ad_E g tk n s p q :=
  ⟨fun z => (h s p q hs z.1).mp z.2, fun z => ⟨ad_E_n z, (h s p q hs (ad_E_n z)).mpr z⟩⟩
/-- chains agree where the symbols' steps do -/
theorem ad_ch_iff {E E' : Nat → Nat → Nat → Prop} {sy : Nat → Nat} {i : Nat} : ∀ d p q, (∀ k, k < d → ∀ p q, E (sy (i + k)) p q ↔ E' (sy (i + k)) p q) → (ad_ch E sy i d p q ↔ ad_ch E' sy i d p q) := by
  intro d
  induction d with
  | zero => exact fun p q _ => Iff.rfl
  | succ d ih =>
    intro p q h
    constructor
    · intro ⟨m, h1, h2⟩
      exact ⟨m, (ih p m (fun k hk => h k (by omega))).mp h1, (h d (by omega) m q).mp h2⟩
    · intro ⟨m, h1, h2⟩
      exact ⟨m, (ih p m (fun k hk => h k (by omega))).mpr h1, (h d (by omega) m q).mpr h2⟩
/-- the chain of an alternative over exact columns -/
theorem ad_ex_ch {g : ad_G} (w : ad_wf g) {tk : Nat → Nat} {n : Nat} {c : Nat → Nat → Int32} (h : ad_ex g tk n c) {a i d : Nat} (ha : a < ad_C g) (hi : ad_st g a ≤ i) (hd : i + d ≤ ad_st g a + ad_ln g a) (p q : Nat) : ad_ch (ad_cE n c) (ad_sy g) i d p q ↔ ad_ch (ad_E g tk n) (ad_sy g) i d p q :=
  ad_ch_iff d p q fun k hk p q => ad_ex_cE h (w.2.2.2 _ (by have := (w.2.2.1 a ha).2; omega))
/-! ===== how far the input can be read: the least relation ===== -/
def ad_cP (g : ad_G) (tk : Nat → Nat) (n : Nat) (S : Nat → Nat → Nat → Prop) : Prop :=
  ∀ a, a < ad_C g → ∀ p, p ≤ n → (∀ k q, k ≤ ad_ln g a → ad_ch (ad_E g tk n) (ad_sy g) (ad_st g a) k p q → S (ad_ru g a) p q) ∧
    (∀ k m q, k < ad_ln g a → ad_ch (ad_E g tk n) (ad_sy g) (ad_st g a) k p m → 16 ≤ ad_sy g (ad_st g a + k) → S (ad_sy g (ad_st g a + k) - 16) m q → S (ad_ru g a) p q)
def ad_PR (g : ad_G) (tk : Nat → Nat) (n : Nat) (r p q : Nat) : Prop := ∀ S : Nat → Nat → Nat → Prop, ad_cP g tk n S → S r p q
theorem ad_PR_c (g : ad_G) (tk : Nat → Nat) (n : Nat) : ad_cP g tk n (ad_PR g tk n) := fun a ha p hp =>
  ⟨fun k q hk hc S hS => (hS a ha p hp).1 k q hk hc, fun k m q hk hc hs hr S hS => (hS a ha p hp).2 k m q hk hc hs (hr S hS)⟩
/-- the greatest i below k in P, or 0 -/
def ad_mx (P : Nat → Bool) : Nat → Nat
  | 0 => 0
  | k + 1 => if P k = true then k else ad_mx P k
theorem ad_mx_eq {P Q : Nat → Bool} (h : ∀ i, 0 < i → (P i = true ↔ Q i = true)) : ∀ k, ad_mx P k = ad_mx Q k := by
  intro k
  induction k with
  | zero => rfl
  | succ k ih =>
    show (if P k = true then k else ad_mx P k) = (if Q k = true then k else ad_mx Q k)
    by_cases hk : 0 < k
    · have h1 := h k hk
      by_cases hp : P k = true
      · rw [if_pos hp, if_pos (h1.mp hp)]
      · rw [if_neg hp, if_neg (fun z => hp (h1.mpr z)), ih]
    · have e : k = 0 := by omega
      subst e
      show (if P 0 = true then 0 else 0) = (if Q 0 = true then 0 else 0)
      split <;> split <;> rfl
theorem ad_mx_le (P : Nat → Bool) : ∀ k, ad_mx P (k + 1) ≤ k := by
  intro k
  induction k with
  | zero =>
    show (if P 0 = true then 0 else 0) ≤ 0
    split <;> omega
  | succ k ih =>
    show (if P (k + 1) = true then k + 1 else ad_mx P (k + 1)) ≤ k + 1
    split <;> omega
/-! ===== rounds: 'all is done, or the measure has grown' ===== -/
/-- after the items before a of a round that began at measure at least j: all done so far, or grown -/
def ad_rin (fine : Nat → Prop) (done : Prop) (j mu a : Nat) : Prop := ((∀ b, b < a → fine b) ∧ (done ∨ j ≤ mu)) ∨ j + 1 ≤ mu
def ad_rout (done : Prop) (j mu : Nat) : Prop := done ∨ j ≤ mu
theorem ad_rin_0 {fine : Nat → Prop} {done : Prop} {j mu : Nat} (h : ad_rout done j mu) : ad_rin fine done j mu 0 := Or.inl ⟨fun b hb => absurd hb (Nat.not_lt_zero b), h⟩
theorem ad_rin_e {fine : Nat → Prop} {done : Prop} {j mu C : Nat} (hd : (∀ b, b < C → fine b) → done) (h : ad_rin fine done j mu C) : ad_rout done (j + 1) mu := h.elim (fun z => Or.inl (hd z.1)) Or.inr
/-- nothing changed and item a is fine -/
theorem ad_rin_s {fine : Nat → Prop} {done : Prop} {j mu a : Nat} (h : ad_rin fine done j mu a) (hf : fine a) : ad_rin fine done j mu (a + 1) :=
  h.elim (fun z => Or.inl ⟨fun b hb => by
    by_cases e : b = a
    · rw [e]; exact hf
    · exact z.1 b (by omega), z.2⟩) Or.inr
/-- something changed: the measure grew, and 'done' was not yet so -/
theorem ad_rin_g {fine fine' : Nat → Prop} {done done' : Prop} {j mu mu' a : Nat} (h : ad_rin fine done j mu a) (hn : ¬ done) (hm : mu < mu') : ad_rin fine' done' j mu' (a + 1) := by
  rcases h with ⟨_, h | h⟩ | h
  · exact absurd h hn
  · exact Or.inr (by omega)
  · exact Or.inr (by omega)
