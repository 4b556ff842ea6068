/-! ===== bits ===== -/
theorem ad_one (i : Nat) : bt 1 i = decide (i = 0) := by
  rcases Nat.lt_or_ge i 32 with h | h
  · exact (by decide +kernel : ∀ i, i < 32 → bt 1 i = decide (i = 0)) i h
  · rw [b_big h, decide_eq_false (by omega)]
theorem ad_bit {n : Nat} (hn : n < 32) (i : Nat) : bt ((1 : Int32) <<< (nI n &&& 31)) i = true ↔ i = n := by
  rcases Nat.lt_or_ge i 32 with h | h
  · rw [b_shl n hn 1 h, ad_one]
    simp only [Bool.and_eq_true, decide_eq_true_eq]
    omega
  · rw [b_big h]
    constructor
    · intro z; cases z
    · intro z; omega
theorem ad_has {m : Int32} {i : Nat} (hi : i < 32) : ((m >>> (nI i &&& 31)) &&& 1) = 0 ↔ ¬ bt m i = true := by
  have e0 : bt ((m >>> (nI i &&& 31)) &&& 1) 0 = bt m i := by
    rw [b_and, b_sshr i hi m (by omega), ad_one]
    simp [hi]
  constructor
  · intro h hb
    rw [h, b_0] at e0
    rw [← e0] at hb
    cases hb
  · intro h
    apply b_ext
    intro j hj
    rw [b_0]
    by_cases z : j = 0
    · subst z
      rw [e0]
      cases hb : bt m i
      · rfl
      · exact absurd hb h
    · rw [b_and, ad_one, decide_eq_false z, Bool.and_false]
theorem ad_and0 (x y : Int32) : (x &&& y) = 0 ↔ ¬ ∃ q, bt x q = true ∧ bt y q = true := by
  constructor
  · intro h ⟨q, h1, h2⟩
    have e : bt (x &&& y) q = true := by rw [b_and, h1, h2]; rfl
    rw [h, b_0] at e
    cases e
  · intro h
    apply b_ext
    intro q _
    rw [b_0, b_and]
    cases h1 : bt x q
    · rfl
    · cases h2 : bt y q
      · rfl
      · exact absurd ⟨q, h1, h2⟩ h
theorem ad_orb (x y : Int32) (i : Nat) : bt (x ||| y) i = true ↔ bt x i = true ∨ bt y i = true := by
  rw [b_or, Bool.or_eq_true]
theorem ad_bext {x y : Int32} (h : ∀ i, bt x i = true ↔ bt y i = true) : x = y := b_ext fun i _ => Bool.eq_iff_iff.mpr (h i)
theorem ad_ff {b : Bool} (h : ¬ b = true) : b = false := by cases b <;> simp_all
/-! ===== counts ===== -/
def ad_cn (P : Nat → Bool) : Nat → Nat
  | 0 => 0
  | n + 1 => ad_cn P n + (if P n = true then 1 else 0)
theorem ad_cn_le (P : Nat → Bool) (n : Nat) : ad_cn P n ≤ n := by
  induction n with
  | zero => exact Nat.le_refl 0
  | succ n ih =>
    show ad_cn P n + (if P n = true then 1 else 0) ≤ n + 1
    split <;> omega
theorem ad_cn_mono {P Q : Nat → Bool} (n : Nat) (h : ∀ i, i < n → P i = true → Q i = true) : ad_cn P n ≤ ad_cn Q n := by
  induction n with
  | zero => exact Nat.le_refl 0
  | succ n ih =>
    show ad_cn P n + (if P n = true then 1 else 0) ≤ ad_cn Q n + (if Q n = true then 1 else 0)
    have h1 := ih (fun i hi => h i (by omega))
    by_cases hp : P n = true
    · rw [if_pos hp, if_pos (h n (by omega) hp)]; omega
    · rw [if_neg hp]; split <;> omega
theorem ad_cn_lt {P Q : Nat → Bool} (n : Nat) (h : ∀ i, i < n → P i = true → Q i = true) (j : Nat) (hj : j < n) (hq : Q j = true) (hp : ¬ P j = true) : ad_cn P n < ad_cn Q n := by
  induction n with
  | zero => omega
  | succ n ih =>
    show ad_cn P n + (if P n = true then 1 else 0) < ad_cn Q n + (if Q n = true then 1 else 0)
    by_cases e : j = n
    · subst e
      have h1 := ad_cn_mono j (fun i hi => h i (by omega))
      rw [if_neg hp, if_pos hq]; omega
    · have h1 := ih (fun i hi => h i (by omega)) (by omega)
      by_cases hp2 : P n = true
      · rw [if_pos hp2, if_pos (h n (by omega) hp2)]; omega
      · rw [if_neg hp2]; split <;> omega
theorem ad_cn_eq {P Q : Nat → Bool} (n : Nat) (h : ∀ i, i < n → P i = Q i) : ad_cn P n = ad_cn Q n :=
  Nat.le_antisymm (ad_cn_mono n fun i hi hp => by rw [← h i hi]; exact hp) (ad_cn_mono n fun i hi hp => by rw [h i hi]; exact hp)
theorem ad_cn_full {P : Nat → Bool} (n : Nat) (h : n ≤ ad_cn P n) : ∀ i, i < n → P i = true := by
  intro i hi
  by_cases hp : P i = true
  · exact hp
  · have h1 := ad_cn_lt (P := P) (Q := fun _ => true) n (fun _ _ _ => rfl) i hi rfl hp
    have h2 := ad_cn_le (fun _ => true) n
    omega
theorem ad_cn_0 {P : Nat → Bool} (n : Nat) (h : ad_cn P n = 0) : ∀ i, i < n → ¬ P i = true := by
  intro i hi hp
  have h1 := ad_cn_lt (P := fun _ => false) (Q := P) n (fun _ _ z => by cases z) i hi hp (by decide)
  omega
theorem ad_cn_pos {P : Nat → Bool} (n i : Nat) (hi : i < n) (hp : P i = true) : 0 < ad_cn P n := by
  have h1 := ad_cn_lt (P := fun _ => false) (Q := P) n (fun _ _ z => by cases z) i hi hp (by decide)
  omega
/-- the least i below n with P, if there is one -/
theorem ad_least (P : Nat → Bool) (n : Nat) (h : ∃ i, i < n ∧ P i = true) : ∃ i, i < n ∧ P i = true ∧ ∀ j, j < i → ¬ P j = true := by
  induction n with
  | zero => obtain ⟨i, hi, _⟩ := h; exact absurd hi (Nat.not_lt_zero i)
  | succ n ih =>
    by_cases z : ∃ i, i < n ∧ P i = true
    · obtain ⟨i, hi, hp, hl⟩ := ih z
      exact ⟨i, by omega, hp, hl⟩
    · obtain ⟨i, hi, hp⟩ := h
      have e : i = n := by
        by_cases q : i < n
        · exact absurd ⟨i, q, hp⟩ z
        · omega
      subst e
      exact ⟨i, hi, hp, fun j hj hj2 => z ⟨j, hj, hj2⟩⟩
/-! ===== chains ===== -/
def ad_ch (E : Nat → Nat → Nat → Prop) (sy : Nat → Nat) (i : Nat) : Nat → Nat → Nat → Prop
  | 0, p, q => p = q
  | d + 1, p, q => ∃ m, ad_ch E sy i d p m ∧ E (sy (i + d)) m q
theorem ad_ch_mono {E E' : Nat → Nat → Nat → Prop} {sy : Nat → Nat} {i : Nat} (h : ∀ s p q, E s p q → E' s p q) : ∀ d p q, ad_ch E sy i d p q → ad_ch E' sy i d p q := by
  intro d
  induction d with
  | zero => exact fun p q e => e
  | succ d ih =>
    intro p q ⟨m, h1, h2⟩
    exact ⟨m, ih p m h1, h _ _ _ h2⟩
theorem ad_ch_cons {E : Nat → Nat → Nat → Prop} {sy : Nat → Nat} {i : Nat} : ∀ d p q, ad_ch E sy i (d + 1) p q ↔ ∃ m, E (sy i) p m ∧ ad_ch E sy (i + 1) d m q := by
  intro d
  induction d with
  | zero =>
    intro p q
    constructor
    · intro ⟨m, h1, h2⟩
      have e : p = m := h1
      subst e
      exact ⟨q, h2, rfl⟩
    · intro ⟨m, h1, h2⟩
      have e : m = q := h2
      subst e
      exact ⟨p, rfl, h1⟩
  | succ d ih =>
    intro p q
    have ea : i + 1 + d = i + (d + 1) := by omega
    constructor
    · intro ⟨m, h1, h2⟩
      obtain ⟨m', h3, h4⟩ := (ih p m).mp h1
      refine ⟨m', h3, m, h4, ?_⟩
      rw [ea]
      exact h2
    · intro ⟨m', h3, m, h4, h2⟩
      rw [ea] at h2
      exact ⟨m, (ih p m).mpr ⟨m', h3, h4⟩, h2⟩
/-! ===== the grammar: alternatives, symbols in all, rule, start, length of an alternative, symbols ===== -/
abbrev ad_G : Type := Nat × Nat × (Nat → Nat) × (Nat → Nat) × (Nat → Nat) × (Nat → Nat)
def ad_C (g : ad_G) : Nat := g.1
def ad_M (g : ad_G) : Nat := g.2.1
def ad_ru (g : ad_G) : Nat → Nat := g.2.2.1
def ad_st (g : ad_G) : Nat → Nat := g.2.2.2.1
def ad_ln (g : ad_G) : Nat → Nat := g.2.2.2.2.1
def ad_sy (g : ad_G) : Nat → Nat := g.2.2.2.2.2
def ad_wf (g : ad_G) : Prop := ad_C g ≤ 16 ∧ ad_M g ≤ 48 ∧ (∀ a, a < ad_C g → ad_ru g a < 8 ∧ ad_st g a + ad_ln g a ≤ ad_M g) ∧ (∀ i, i < ad_M g → ad_sy g i < 24)
theorem ad_wsy {g : ad_G} (h : ad_wf g) {a k : Nat} (ha : a < ad_C g) (hk : k < ad_ln g a) : ad_sy g (ad_st g a + k) < 24 := by
  have h1 := (h.2.2.1 a ha).2
  exact h.2.2.2 _ (by omega)
/-- an alternative made of S alone (T: and of terminals) -/
def ad_ok (g : ad_G) (T : Bool) (S : Nat → Prop) (a : Nat) : Prop :=
  ∀ k, k < ad_ln g a → (ad_sy g (ad_st g a + k) < 16 ∧ T = true) ∨ (16 ≤ ad_sy g (ad_st g a + k) ∧ S (ad_sy g (ad_st g a + k) - 16))
def ad_cS (g : ad_G) (T : Bool) (S : Nat → Prop) : Prop := ∀ a, a < ad_C g → ad_ok g T S a → S (ad_ru g a)
def ad_LS (g : ad_G) (T : Bool) (r : Nat) : Prop := ∀ S : Nat → Prop, ad_cS g T S → S r
theorem ad_ok_mono {g : ad_G} {T : Bool} {S S' : Nat → Prop} (h : ∀ r, S r → S' r) {a : Nat} (ho : ad_ok g T S a) : ad_ok g T S' a := fun k hk =>
  (ho k hk).elim Or.inl (fun z => Or.inr ⟨z.1, h _ z.2⟩)
theorem ad_LS_c (g : ad_G) (T : Bool) : ad_cS g T (ad_LS g T) := fun a ha ho S hS => hS a ha (ad_ok_mono (fun _ hr => hr S hS) ho)
/-- r begins with q -/
def ad_bw (g : ad_G) (r q : Nat) : Prop :=
  ∃ a, a < ad_C g ∧ ad_ru g a = r ∧ ∃ k, k < ad_ln g a ∧ ad_sy g (ad_st g a + k) = 16 + q ∧ ∀ j, j < k → 16 ≤ ad_sy g (ad_st g a + j) ∧ ad_LS g false (ad_sy g (ad_st g a + j) - 16)
theorem ad_bw_lt {g : ad_G} (h : ad_wf g) {r q : Nat} (hb : ad_bw g r q) : r < 8 ∧ q < 8 := by
  obtain ⟨a, ha, e, k, hk, es, _⟩ := hb
  have h1 := (h.2.2.1 a ha).1
  have h2 := ad_wsy h ha hk
  omega
def ad_RK (g : ad_G) : Prop := ∃ rk : Nat → Nat, (∀ r, r < 8 → rk r < 8) ∧ ∀ r q, ad_bw g r q → rk q < rk r
/-- the rules of r's begins-with, closed -/
def ad_TC (R : Nat → Nat → Prop) (r q : Nat) : Prop := ∀ S : Nat → Nat → Prop, (∀ x y, R x y → S x y) → (∀ x y z, S x y → R y z → S x z) → S r q
theorem ad_TC_1 {R : Nat → Nat → Prop} {r q : Nat} (h : R r q) : ad_TC R r q := fun _ h1 _ => h1 _ _ h
theorem ad_TC_s {R : Nat → Nat → Prop} {r q z : Nat} (h : ad_TC R r q) (h2 : R q z) : ad_TC R r z := fun S a b => b _ _ _ (h S a b) h2
theorem ad_TC_t {R : Nat → Nat → Prop} {r q z : Nat} (h : ad_TC R r q) (h2 : ad_TC R q z) : ad_TC R r z :=
  h2 (fun x y => ad_TC R r x → ad_TC R r y) (fun _ _ hxy hx => ad_TC_s hx hxy) (fun _ _ _ f hyz hx => ad_TC_s (f hx) hyz) h
/-- a rank out of a closed relation without a loop -/
theorem ad_rank {g : ad_G} (h : ad_wf g) (f : Nat → Nat → Bool) (h1 : ∀ r q, ad_bw g r q → f r q = true) (h2 : ∀ r k q, r < 8 → k < 8 → q < 8 → f r k = true → f k q = true → f r q = true) (h3 : ∀ r, r < 8 → ¬ f r r = true) : ad_RK g := by
  refine ⟨fun r => ad_cn (f r) 8, ?_, ?_⟩
  · intro r hr
    show ad_cn (f r) 8 < 8
    have := ad_cn_lt (P := f r) (Q := fun _ => true) 8 (fun _ _ _ => rfl) r hr rfl (h3 r hr)
    have := ad_cn_le (fun _ => true) 8
    omega
  · intro r q hb
    have hl := ad_bw_lt h hb
    exact ad_cn_lt 8 (fun i hi hp => h2 r q i hl.1 hl.2 hi (h1 r q hb) hp) q hl.2 (h1 r q hb) (h3 q hl.2)
/-! ===== spans: the least relation ===== -/
/-- a step by symbol s from p to q, S being the rules' relation -/
def ad_ts (tk : Nat → Nat) (n : Nat) (S : Nat → Nat → Nat → Prop) (s p q : Nat) : Prop := (s < 16 ∧ p < n ∧ tk p = s ∧ q = p + 1) ∨ (16 ≤ s ∧ p ≤ n ∧ S (s - 16) p q)
def ad_clo (g : ad_G) (tk : Nat → Nat) (n : Nat) (S : Nat → Nat → Nat → Prop) : Prop := ∀ a, a < ad_C g → ∀ p, p ≤ n → ∀ q, ad_ch (ad_ts tk n S) (ad_sy g) (ad_st g a) (ad_ln g a) p q → S (ad_ru g a) p q
def ad_LR (g : ad_G) (tk : Nat → Nat) (n : Nat) (r p q : Nat) : Prop := ∀ S : Nat → Nat → Nat → Prop, ad_clo g tk n S → S r p q
def ad_E (g : ad_G) (tk : Nat → Nat) (n : Nat) : Nat → Nat → Nat → Prop := ad_ts tk n (ad_LR g tk n)
theorem ad_ts_mono {tk : Nat → Nat} {n : Nat} {S S' : Nat → Nat → Nat → Prop} (h : ∀ r p q, S r p q → S' r p q) (s p q : Nat) (ht : ad_ts tk n S s p q) : ad_ts tk n S' s p q :=
  ht.elim Or.inl (fun z => Or.inr ⟨z.1, z.2.1, h _ _ _ z.2.2⟩)
theorem ad_LR_c (g : ad_G) (tk : Nat → Nat) (n : Nat) : ad_clo g tk n (ad_LR g tk n) := fun a ha p hp q hc S hS =>
  hS a ha p hp q (ad_ch_mono (ad_ts_mono fun _ _ _ hr => hr S hS) _ _ _ hc)
theorem ad_LR_i {g : ad_G} {tk : Nat → Nat} {n r p q : Nat} (h : ad_LR g tk n r p q) : ∃ a, a < ad_C g ∧ ad_ru g a = r ∧ p ≤ n ∧ ad_ch (ad_E g tk n) (ad_sy g) (ad_st g a) (ad_ln g a) p q := by
  refine h (fun r p q => ∃ a, a < ad_C g ∧ ad_ru g a = r ∧ p ≤ n ∧ ad_ch (ad_E g tk n) (ad_sy g) (ad_st g a) (ad_ln g a) p q) ?_
  intro a ha p hp q hc
  refine ⟨a, ha, rfl, hp, ad_ch_mono (ad_ts_mono ?_) _ _ _ hc⟩
  intro r p q ⟨b, hb, e, hp, hc⟩
  rw [← e]
  exact ad_LR_c g tk n b hb p hp q hc
/-- what a chain of steps keeps, B being the property of each step -/
theorem ad_ch_le {g : ad_G} {E : Nat → Nat → Nat → Prop} {n : Nat} (hE : ∀ s p q, E s p q → p ≤ q ∧ q ≤ n ∧ (p = q → 16 ≤ s ∧ ad_LS g false (s - 16))) {sy : Nat → Nat} {i : Nat} : ∀ d p q, p ≤ n → ad_ch E sy i d p q → p ≤ q ∧ q ≤ n ∧ (p = q → ∀ k, k < d → 16 ≤ sy (i + k) ∧ ad_LS g false (sy (i + k) - 16)) := by
  intro d
  induction d with
  | zero =>
    intro p q hp h
    have e : p = q := h
    subst e
    exact ⟨Nat.le_refl p, hp, fun _ k hk => absurd hk (Nat.not_lt_zero k)⟩
  | succ d ih =>
    intro p q hp ⟨m, h1, h2⟩
    obtain ⟨a1, a2, a3⟩ := ih p m hp h1
    obtain ⟨b1, b2, b3⟩ := hE _ _ _ h2
    refine ⟨by omega, b2, fun e k hk => ?_⟩
    by_cases z : k = d
    · subst z
      exact b3 (by omega)
    · exact a3 (by omega) k (by omega)
theorem ad_LR_le {g : ad_G} {tk : Nat → Nat} {n r p q : Nat} (h : ad_LR g tk n r p q) : p ≤ q ∧ q ≤ n ∧ (p = q → ad_LS g false r) := by
  refine h (fun r p q => p ≤ q ∧ q ≤ n ∧ (p = q → ad_LS g false r)) ?_
  intro a ha p hp q hc
  have h1 := ad_ch_le (g := g) (n := n) (E := ad_ts tk n (fun r p q => p ≤ q ∧ q ≤ n ∧ (p = q → ad_LS g false r))) (fun s p q hs => by
    rcases hs with ⟨z1, z2, z3, z4⟩ | ⟨z1, z2, z3, z4, z5⟩
    · exact ⟨by omega, by omega, fun e => absurd e (by omega)⟩
    · exact ⟨z3, z4, fun e => ⟨z1, z5 e⟩⟩) _ p q hp hc
  exact ⟨h1.1, h1.2.1, fun e => ad_LS_c g false a ha (fun k hk => Or.inr (h1.2.2 e k hk))⟩
theorem ad_E_le {g : ad_G} {tk : Nat → Nat} {n s p q : Nat} (h : ad_E g tk n s p q) : p ≤ q ∧ q ≤ n ∧ (p = q → 16 ≤ s ∧ ad_LS g false (s - 16)) := by
  rcases h with ⟨z1, z2, z3, z4⟩ | ⟨z1, z2, z3⟩
  · exact ⟨by omega, by omega, fun e => absurd e (by omega)⟩
  · have h1 := ad_LR_le z3
    exact ⟨h1.1, h1.2.1, fun e => ⟨z1, h1.2.2 e⟩⟩
/-- the chain of an alternative from P by what stands already -/
theorem ad_key {g : ad_G} {tk : Nat → Nat} {n P j : Nat} {rk : Nat → Nat} (hr : ∀ r q, ad_bw g r q → rk q < rk r) {E' : Nat → Nat → Nat → Prop}
    (ht : ∀ s p q, s < 16 → ad_E g tk n s p q → E' s p q)
    (hl : ∀ s p q, P < p → ad_E g tk n s p q → E' s p q)
    (hP : ∀ s q, 16 ≤ s → rk (s - 16) < j → ad_E g tk n s P q → E' s P q)
    {a : Nat} (ha : a < ad_C g) (hja : rk (ad_ru g a) ≤ j) : ∀ d q, d ≤ ad_ln g a → ad_ch (ad_E g tk n) (ad_sy g) (ad_st g a) d P q → ad_ch E' (ad_sy g) (ad_st g a) d P q ∧ P ≤ q ∧ (P = q → ∀ k, k < d → 16 ≤ ad_sy g (ad_st g a + k) ∧ ad_LS g false (ad_sy g (ad_st g a + k) - 16)) := by
  intro d
  induction d with
  | zero =>
    intro q _ h
    have e : P = q := h
    subst e
    exact ⟨rfl, Nat.le_refl P, fun _ k hk => absurd hk (Nat.not_lt_zero k)⟩
  | succ d ih =>
    intro q hd ⟨m, h1, h2⟩
    obtain ⟨a1, a2, a3⟩ := ih m (by omega) h1
    have b := ad_E_le h2
    refine ⟨⟨m, a1, ?_⟩, by omega, fun e k hk => ?_⟩
    · by_cases z : P = m
      · subst z
        by_cases z2 : ad_sy g (ad_st g a + d) < 16
        · exact ht _ _ _ z2 h2
        · refine hP _ _ (by omega) ?_ h2
          have : ad_bw g (ad_ru g a) (ad_sy g (ad_st g a + d) - 16) := ⟨a, ha, rfl, d, by omega, by omega, a3 rfl⟩
          have := hr _ _ this
          omega
      · exact hl _ _ _ (by omega) h2
    · by_cases z : k = d
      · subst z
        exact b.2.2 (by omega)
      · exact a3 (by omega) k (by omega)
