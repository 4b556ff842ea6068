/-! ===== how far: bounds ===== -/
theorem ad_chE_le {g : ad_G} {tk : Nat → Nat} {n i d p q : Nat} (hp : p ≤ n) (h : ad_ch (ad_E g tk n) (ad_sy g) i d p q) : p ≤ q ∧ q ≤ n := by
  have := ad_ch_le (g := g) (n := n) (E := ad_E g tk n) (fun s p q hs => ad_E_le hs) _ p q hp h
  exact ⟨this.1, this.2.1⟩
theorem ad_PR_le {g : ad_G} {tk : Nat → Nat} {n r p q : Nat} (h : ad_PR g tk n r p q) : q ≤ n := by
  refine h (fun r p q => q ≤ n) ?_
  intro a ha p hp
  exact ⟨fun k q hk hc => (ad_chE_le hp hc).2, fun k m q _ _ _ hq => hq⟩
/-! ===== the component: begun and reached ===== -/
/-- the relation of alternative a: from p before symbol k, at m -/
def ad_at (g : ad_G) (tk : Nat → Nat) (n : Nat) (a k p m : Nat) : Prop := ad_ch (ad_E g tk n) (ad_sy g) (ad_st g a) k p m
def ad_vS (g : ad_G) (tk : Nat → Nat) (n : Nat) (B : Nat → Int32) : Prop := ∀ r p, r < 8 → bt (B r) p = true → p ≤ n ∧ ∀ q, ad_PR g tk n r p q → ad_PR g tk n 0 0 q
def ad_vR (g : ad_G) (tk : Nat → Nat) (n : Nat) (R : Int32) : Prop := ∀ q, bt R q = true → q = 0 ∨ ad_PR g tk n 0 0 q
def ad_vf (g : ad_G) (tk : Nat → Nat) (n : Nat) (B : Nat → Int32) (R : Int32) (a : Nat) : Prop :=
  (∀ k p m, k < ad_ln g a → bt (B (ad_ru g a)) p = true → ad_at g tk n a k p m → 16 ≤ ad_sy g (ad_st g a + k) → bt (B (ad_sy g (ad_st g a + k) - 16)) m = true) ∧
    (∀ k p q, k ≤ ad_ln g a → bt (B (ad_ru g a)) p = true → ad_at g tk n a k p q → bt R q = true)
def ad_vd (g : ad_G) (tk : Nat → Nat) (n : Nat) (B : Nat → Int32) (R : Int32) : Prop := ∀ a, a < ad_C g → ad_vf g tk n B R a
def ad_mu (B : Nat → Int32) (N : Nat) : Nat := ad_cn (fun t => bt (B (t / 13)) (t % 13)) N
theorem ad_mu_lt {B B' : Nat → Int32} {N : Nat} (R : Nat) (hN : N = R * 13) (hm : ∀ r q, r < R → bt (B r) q = true → bt (B' r) q = true) {r m : Nat} (hr : r < R) (hm13 : m < 13) (h1 : bt (B' r) m = true) (h2 : ¬ bt (B r) m = true) : ad_mu B N < ad_mu B' N := by
  refine ad_cn_lt N ?_ (r * 13 + m) (by omega) ?_ ?_
  · intro i hi hb
    exact hm _ _ (by omega) hb
  · show bt (B' ((r * 13 + m) / 13)) ((r * 13 + m) % 13) = true
    rw [show (r * 13 + m) / 13 = r by omega, show (r * 13 + m) % 13 = m by omega]
    exact h1
  · show ¬ bt (B ((r * 13 + m) / 13)) ((r * 13 + m) % 13) = true
    rw [show (r * 13 + m) / 13 = r by omega, show (r * 13 + m) % 13 = m by omega]
    exact h2
/-- what reading alternative a's first K symbols makes of B, and the places come by -/
def ad_rdB (g : ad_G) (tk : Nat → Nat) (n a K : Nat) (B B' : Nat → Int32) : Prop :=
  ∀ r m, r < 8 → (bt (B' r) m = true ↔ bt (B r) m = true ∨ ∃ k p, k < K ∧ bt (B (ad_ru g a)) p = true ∧ ad_at g tk n a k p m ∧ ad_sy g (ad_st g a + k) = 16 + r)
def ad_rdR (g : ad_G) (tk : Nat → Nat) (n a K : Nat) (B : Nat → Int32) (ret : Int32) : Prop :=
  ∀ q, bt ret q = true ↔ ∃ k p, k ≤ K ∧ bt (B (ad_ru g a)) p = true ∧ ad_at g tk n a k p q
theorem ad_v_step {g : ad_G} (w : ad_wf g) {tk : Nat → Nat} {n : Nat} (hn : n ≤ 12) {B B' : Nat → Int32} {R ret : Int32} {a j : Nat} (ha : a < ad_C g)
    (hS : ad_vS g tk n B) (hR : ad_vR g tk n R) (h0 : bt (B 0) 0 = true)
    (hB : ad_rdB g tk n a (ad_ln g a) B B') (hr : ad_rdR g tk n a (ad_ln g a) B ret)
    (hj : ad_rin (ad_vf g tk n B R) (ad_vd g tk n B R) j (ad_mu B 104) a) :
    ad_vS g tk n B' ∧ ad_vR g tk n (R ||| ret) ∧ bt (B' 0) 0 = true ∧ ad_rin (ad_vf g tk n B' (R ||| ret)) (ad_vd g tk n B' (R ||| ret)) j (ad_mu B' 104) (a + 1) := by
  have hra := (w.2.2.1 a ha).1
  have hS' : ad_vS g tk n B' := by
    intro r m hr8 hb
    rcases (hB r m hr8).mp hb with z | ⟨k, p, hk, hp, hc, es⟩
    · exact hS r m hr8 z
    · obtain ⟨hpn, hq⟩ := hS _ p hra hp
      refine ⟨(ad_chE_le hpn hc).2, fun q hpr => hq q ?_⟩
      refine ((ad_PR_c g tk n) a ha p hpn).2 k m q hk hc (by omega) ?_
      rw [es, Nat.add_sub_cancel_left]
      exact hpr
  have hR' : ad_vR g tk n (R ||| ret) := by
    intro q hb
    rcases (ad_orb _ _ _).mp hb with z | z
    · exact hR q z
    · obtain ⟨k, p, hk, hp, hc⟩ := (hr q).mp z
      obtain ⟨hpn, hq⟩ := hS _ p hra hp
      exact Or.inr (hq q (((ad_PR_c g tk n) a ha p hpn).1 k q hk hc))
  have hmono : ∀ r m, r < 8 → bt (B r) m = true → bt (B' r) m = true := fun r m hr8 hb => (hB r m hr8).mpr (Or.inl hb)
  refine ⟨hS', hR', hmono 0 0 (by omega) h0, ?_⟩
  by_cases hch : ∀ r m, r < 8 → bt (B' r) m = true → bt (B r) m = true
  · have hmu : ad_mu B' 104 = ad_mu B 104 := by
      refine ad_cn_eq 104 fun i hi => ?_
      show bt (B' (i / 13)) (i % 13) = bt (B (i / 13)) (i % 13)
      exact Bool.eq_iff_iff.mpr ⟨hch _ _ (by omega), hmono _ _ (by omega)⟩
    have hfb : ∀ b, b < ad_C g → ad_vf g tk n B R b → ad_vf g tk n B' (R ||| ret) b := by
      intro b hb hf
      have hrb := (w.2.2.1 b hb).1
      refine ⟨fun k p m hk hp hc hs => ?_, fun k p q hk hp hc => ?_⟩
      · have h24 := ad_wsy w hb hk
        exact hmono _ _ (by omega) (hf.1 k p m hk (hch _ _ hrb hp) hc hs)
      · exact (ad_orb _ _ _).mpr (Or.inl (hf.2 k p q hk (hch _ _ hrb hp) hc))
    have hfa : ad_vf g tk n B' (R ||| ret) a := by
      refine ⟨fun k p m hk hp hc hs => ?_, fun k p q hk hp hc => ?_⟩
      · have h24 := ad_wsy w ha hk
        exact (hB _ m (by omega)).mpr (Or.inr ⟨k, p, hk, hch _ _ hra hp, hc, by omega⟩)
      · exact (ad_orb _ _ _).mpr (Or.inr ((hr q).mpr ⟨k, p, hk, hch _ _ hra hp, hc⟩))
    rw [hmu]
    rcases hj with ⟨h1, h2⟩ | h
    · refine Or.inl ⟨fun b hb => ?_, ?_⟩
      · by_cases e : b = a
        · rw [e]; exact hfa
        · exact hfb b (by omega) (h1 b (by omega))
      · rcases h2 with h2 | h2
        · exact Or.inl fun b hb => hfb b hb (h2 b hb)
        · exact Or.inr h2
    · exact Or.inr h
  · have hex : ∃ r m, r < 8 ∧ bt (B' r) m = true ∧ ¬ bt (B r) m = true := Classical.byContradiction fun z => hch fun r m hr8 hb => Classical.byContradiction fun y => z ⟨r, m, hr8, hb, y⟩
    obtain ⟨r, m, hr8, hb1, hb2⟩ := hex
    have hm13 := (hS' r m hr8 hb1).1
    refine ad_rin_g hj ?_ (ad_mu_lt 8 rfl hmono hr8 (by omega) hb1 hb2)
    intro hd
    rcases (hB r m hr8).mp hb1 with z | ⟨k, p, hk, hp, hc, es⟩
    · exact hb2 z
    · have := (hd a ha).1 k p m hk hp hc (by omega)
      rw [es, Nat.add_sub_cancel_left] at this
      exact hb2 this
theorem ad_v_end {g : ad_G} (w : ad_wf g) {tk : Nat → Nat} {n : Nat} {B : Nat → Int32} {R : Int32} (h0 : bt (B 0) 0 = true) (hd : ad_vd g tk n B R) (hR : ad_vR g tk n R) (q : Nat) (hq : 0 < q) : bt R q = true ↔ ad_PR g tk n 0 0 q := by
  constructor
  · intro h
    rcases hR q h with z | z
    · exact absurd hq (by omega)
    · exact z
  · intro h
    refine h (fun r p q => r < 8 → bt (B r) p = true → bt R q = true) ?_ (by omega) h0
    intro a ha p hp
    refine ⟨fun k q hk hc _ hb => (hd a ha).2 k p q hk hb hc, ?_⟩
    intro k m q hk hc hs hS _ hb
    have h24 := ad_wsy w ha hk
    exact hS (by omega) ((hd a ha).1 k p m hk hb hc hs)
/-! ===== the reference's pre ===== -/
/-- the bits of altPre -/
def ad_ap (g : ad_G) (tk : Nat → Nat) (n : Nat) (pr : Nat → Int32) (a p q : Nat) : Prop :=
  (∃ k, k ≤ ad_ln g a ∧ ad_at g tk n a k p q) ∨ (∃ k m, k < ad_ln g a ∧ ad_at g tk n a k p m ∧ 16 ≤ ad_sy g (ad_st g a + k) ∧ bt (pr ((ad_sy g (ad_st g a + k) - 16) * 13 + m)) q = true)
def ad_ps (g : ad_G) (tk : Nat → Nat) (n : Nat) (pr : Nat → Int32) : Prop := ∀ r p q, r < 8 → p ≤ n → bt (pr (r * 13 + p)) q = true → ad_PR g tk n r p q
def ad_pc (g : ad_G) (tk : Nat → Nat) (n : Nat) (pr : Nat → Int32) (r p : Nat) : Prop := ∀ a q, a < ad_C g → ad_ru g a = r → ad_ap g tk n pr a p q → bt (pr (r * 13 + p)) q = true
theorem ad_p_ap {g : ad_G} (w : ad_wf g) {tk : Nat → Nat} {n : Nat} {pr : Nat → Int32} (hs : ad_ps g tk n pr) {a p q : Nat} (ha : a < ad_C g) (hp : p ≤ n) (h : ad_ap g tk n pr a p q) : ad_PR g tk n (ad_ru g a) p q := by
  rcases h with ⟨k, hk, hc⟩ | ⟨k, m, hk, hc, h16, hb⟩
  · exact ((ad_PR_c g tk n) a ha p hp).1 k q hk hc
  · have h24 := ad_wsy w ha hk
    exact ((ad_PR_c g tk n) a ha p hp).2 k m q hk hc h16 (hs _ m q (by omega) (ad_chE_le hp hc).2 hb)
theorem ad_p_end {g : ad_G} (w : ad_wf g) {tk : Nat → Nat} {n : Nat} {pr : Nat → Int32} (hs : ad_ps g tk n pr) (hc : ∀ r p, r < 8 → p ≤ n → ad_pc g tk n pr r p) (q : Nat) : bt (pr 0) q = true ↔ ad_PR g tk n 0 0 q := by
  constructor
  · intro h
    exact hs 0 0 q (by omega) (by omega) h
  · intro h
    have := h (fun r p q => p ≤ n → bt (pr (r * 13 + p)) q = true) ?_ (by omega)
    · exact this
    · intro a ha p hp
      have h8 := (w.2.2.1 a ha).1
      refine ⟨fun k q hk hch hp => hc _ p h8 hp a q ha rfl (Or.inl ⟨k, hk, hch⟩), ?_⟩
      intro k m q hk hch h16 hS hp
      exact hc _ p h8 hp a q ha rfl (Or.inr ⟨k, m, hk, hch, h16, hS (ad_chE_le hp hch).2⟩)
/-- the union of f a over the alternatives below k of rule r -/
def ad_ro (ru : Nat → Nat) (r : Nat) (f : Nat → Int32) : Nat → Int32
  | 0 => 0
  | a + 1 => if ru a = r then ad_ro ru r f a ||| f a else ad_ro ru r f a
theorem ad_ro_b (ru : Nat → Nat) (r : Nat) (f : Nat → Int32) (q : Nat) : ∀ k, bt (ad_ro ru r f k) q = true ↔ ∃ a, a < k ∧ ru a = r ∧ bt (f a) q = true := by
  intro k
  induction k with
  | zero =>
    show bt 0 q = true ↔ _
    rw [b_0]
    exact ⟨fun z => (nomatch z), fun ⟨p, hp, _⟩ => absurd hp (Nat.not_lt_zero p)⟩
  | succ k ih =>
    show bt (if ru k = r then ad_ro ru r f k ||| f k else ad_ro ru r f k) q = true ↔ _
    by_cases hb : ru k = r
    · rw [if_pos hb, ad_orb, ih]
      constructor
      · intro h
        rcases h with ⟨p, h1, h2⟩ | h
        · exact ⟨p, by omega, h2⟩
        · exact ⟨k, by omega, hb, h⟩
      · intro ⟨p, h1, h2, h3⟩
        by_cases e : p = k
        · subst e; exact Or.inr h3
        · exact Or.inl ⟨p, by omega, h2, h3⟩
    · rw [if_neg hb, ih]
      constructor
      · intro ⟨p, h1, h2⟩
        exact ⟨p, by omega, h2⟩
      · intro ⟨p, h1, h2, h3⟩
        by_cases e : p = k
        · subst e; exact absurd h2 hb
        · exact ⟨p, by omega, h2, h3⟩
