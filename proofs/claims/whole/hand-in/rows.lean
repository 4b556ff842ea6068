section
theorem pk_us {f : Nat → Int32} {k : Nat} {x : Int32} : upd f k x k = x := if_pos rfl
theorem pk_un {f : Nat → Int32} {k j : Nat} {x : Int32} (h : j ≠ k) : upd f k x j = f j := if_neg h
theorem pk_sub {a b : Nat} (h : b ≤ a) : nI a - nI b = nI (a - b) := by
  obtain ⟨c, rfl⟩ : ∃ c, a = c + b := ⟨a - b, by omega⟩
  rw [← nI_add, Int32.add_sub_cancel, Nat.add_sub_cancel]
theorem pk_m1 (n : Nat) : nI (n + 1) + (-1) = nI n := by
  rw [← nI_1, Int32.add_assoc, show (1 : Int32) + (-1) = 0 from rfl, Int32.add_zero]
theorem pk_mul (a b : Nat) : nI a * nI b = nI (a * b) := (Int32.ofNat_mul a b).symm
theorem pk_div {a d : Nat} (ha : a < 2 ^ 31) (h0 : 0 < d) (hd : d < 2 ^ 31) : nI a / nI d = nI (a / d) := by
  apply Int32.toInt_inj.mp
  rw [lg_idiv_nonneg (by rw [nI_toInt ha]; omega) (by rw [nI_toInt hd]; omega), nI_toInt ha, nI_toInt hd, nI_toInt (Nat.lt_of_le_of_lt (Nat.div_le_self a d) ha)]
  first | rfl | exact (Int.natCast_ediv _ _).symm
theorem pk_rem {a d : Nat} (ha : a < 2 ^ 31) (h0 : 0 < d) (hd : d < 2 ^ 31) : nI a - nI a / nI d * nI d = nI (a % d) := by
  rw [pk_div ha h0 hd, pk_mul, pk_sub (Nat.div_mul_le_self a d)]
  exact congrArg nI (by have := Nat.div_add_mod' a d; omega)
theorem pk_sub_toInt {a b : Nat} (ha : a < 2 ^ 30) (hb : b < 2 ^ 30) : (nI a - nI b).toInt = (a : Int) - b := by
  rw [Int32.toInt_sub, nI_toInt (by omega), nI_toInt (by omega)]
  exact Int.bmod_eq_of_le (by omega) (by omega)
theorem pk_sneg {a b : Nat} (hb : b < 2 ^ 30) (h : a < b) : nI a - nI b < 0 := by
  rw [Int32.lt_iff_toInt_lt, pk_sub_toInt (by omega) hb, show (0 : Int32).toInt = 0 from by decide]
  omega
theorem pk_ix (x : Int32) {n : Nat} (hn : n < 2 ^ 31) : x < 0 ∨ nI n ≤ x ∨ ∃ j : Nat, j < n ∧ x = nI j := by
  by_cases h : x < 0
  · exact Or.inl h
  · obtain ⟨j, hj, rfl⟩ := nI_of h
    by_cases h2 : j < n
    · exact Or.inr (Or.inr ⟨j, h2, rfl⟩)
    · exact Or.inr (Or.inl (nI_le (by omega) hj))
theorem pk_le {x y : Int32} {A B : Prop} (a b : Nat) (f : a ≤ b → A) (g : b < a → B) (hx : x = nI a := by rfl) (hy : y = nI b := by rfl) (ha : a < 2 ^ 31 := by omega) (hb : b < 2 ^ 31 := by omega) : (x ≤ y → A) ∧ (¬ x ≤ y → B) := by
  subst hx hy
  rw [nI_leI ha hb]
  exact ⟨f, fun z => g (by omega)⟩
theorem pk_lt {x y : Int32} {A B : Prop} (a b : Nat) (f : a < b → A) (g : b ≤ a → B) (hx : x = nI a := by rfl) (hy : y = nI b := by rfl) (ha : a < 2 ^ 31 := by omega) (hb : b < 2 ^ 31 := by omega) : (x < y → A) ∧ (¬ x < y → B) := by
  subst hx hy
  rw [nI_ltI ha hb]
  exact ⟨f, fun z => g (by omega)⟩
theorem pk_eq {x y : Int32} {A B : Prop} (a b : Nat) (f : a = b → A) (g : a ≠ b → B) (hx : x = nI a := by rfl) (hy : y = nI b := by rfl) (ha : a < 2 ^ 31 := by omega) (hb : b < 2 ^ 31 := by omega) : (x = y → A) ∧ (¬ x = y → B) := by
  subst hx hy
  rw [nI_eq ha hb]
  exact ⟨f, g⟩
theorem pk_in {x : Int32} (n N : Nat) (h : n < N) (hx : x = nI n := by rfl) (hN : N < 2 ^ 31 := by omega) : vp_in x N := by
  subst hx
  exact vp_in_nI h hN
theorem pk_cl {x : Int32} (n : Nat) (hx : x = nI n := by rfl) (h : n < 2 ^ 31 := by omega) : x.toNatClampNeg = n := by
  subst hx
  exact nI_clamp h
theorem pk_tn {n : Nat} (h : n < 2 ^ 32) : (nI n).toBitVec.toNat = n := Nat.mod_eq_of_lt h
theorem pk_loop {σ : Type} (W : Nat → Nat → σ → Prop) (I : Nat → σ → Prop) (e i0 : Nat) (s : σ) (hi : i0 ≤ e) (h0 : I i0 s) (hx : ∀ n s, I e s → W (n + 1) e s)
    (hs : ∀ n i s, i < e → I i s → (∀ s', I (i + 1) s' → W n (i + 1) s') → W (n + 1) i s) : ∃ n, W n i0 s :=
  ⟨e + 1, loop_i W I e hx hs (e + 1) i0 s hi (by omega) h0⟩
theorem pk_loopD {σ : Type} (W : Nat → Nat → σ → Prop) (I : Nat → σ → Prop) (hx : ∀ n s, I 0 s → W (n + 1) 0 s)
    (hs : ∀ n i s, I (i + 1) s → (∀ s', I i s' → W n i s') → W (n + 1) (i + 1) s) : ∀ (e : Nat) (s : σ), I e s → W (e + 1) e s := by
  intro e
  induction e with
  | zero => exact fun s h => hx 0 s h
  | succ e ih => exact fun s h => hs (e + 1) e s h (fun s' h' => ih s' h')
theorem ek_if {c d A B : Prop} (e : c ↔ d) (f : d → A) (g : ¬ d → B) : (c → A) ∧ (¬ c → B) :=
  ⟨fun z => f (e.mp z), fun z => g (fun y => z (e.mpr y))⟩
theorem ek_v {α : Sort _} {P : α → Prop} {a b : α} (e : a = b) (h : P b) : P a := e ▸ h
theorem sb_m1 {p : Nat} (h : 0 < p) : nI p + (-1) = nI (p - 1) := by
  obtain ⟨q, rfl⟩ : ∃ q, p = q + 1 := ⟨p - 1, by omega⟩
  exact pk_m1 q
theorem sb_at {P : Int32 → Prop} {x y : Int32} (e : x = y) (h : P y) : P x := e ▸ h
def bt (x : Int32) (i : Nat) : Bool := x.toBitVec.getLsbD i
theorem b_ext {x y : Int32} (h : ∀ i, i < 32 → bt x i = bt y i) : x = y := Int32.toBitVec_inj.mp (BitVec.eq_of_getLsbD_eq (fun i hi => h i hi))
theorem b_or (x y : Int32) (i : Nat) : bt (x ||| y) i = (bt x i || bt y i) := by unfold bt; rw [Int32.toBitVec_or, BitVec.getLsbD_or]
theorem b_and (x y : Int32) (i : Nat) : bt (x &&& y) i = (bt x i && bt y i) := by unfold bt; rw [Int32.toBitVec_and, BitVec.getLsbD_and]
theorem b_xor (x y : Int32) (i : Nat) : bt (x ^^^ y) i = (bt x i ^^ bt y i) := by unfold bt; rw [Int32.toBitVec_xor, BitVec.getLsbD_xor]
theorem b_big {x : Int32} {i : Nat} (h : 32 ≤ i) : bt x i = false := BitVec.getLsbD_of_ge _ _ h
theorem b_0 (i : Nat) : bt 0 i = false := BitVec.getLsbD_zero
theorem s_l : ∀ n, n < 32 → ((nI n &&& 31).toBitVec.smod 32).toNat = n := by decide +kernel
theorem b_shl (n : Nat) (hn : n < 32) (x : Int32) {i : Nat} (hi : i < 32) : bt (x <<< (nI n &&& 31)) i = (decide (n ≤ i) && bt x (i - n)) := by
  unfold bt
  rw [Int32.toBitVec_shiftLeft]
  show (x.toBitVec <<< ((nI n &&& 31).toBitVec.smod 32).toNat).getLsbD i = _
  rw [s_l n hn, BitVec.getLsbD_shiftLeft]
  rcases Nat.lt_or_ge i n with h | h
  · simp [h, Nat.not_le.mpr h]
  · simp [hi, h, Nat.not_lt.mpr h]
theorem b_sshr (n : Nat) (hn : n < 32) (x : Int32) {i : Nat} (hi : i < 32) : bt (x >>> (nI n &&& 31)) i = if n + i < 32 then bt x (n + i) else bt x 31 := by
  unfold bt
  rw [Int32.toBitVec_shiftRight]
  show (x.toBitVec.sshiftRight ((nI n &&& 31).toBitVec.smod 32).toNat).getLsbD i = _
  rw [s_l n hn, BitVec.getLsbD_sshiftRight, BitVec.msb_eq_getLsbD_last]
  simp [hi]
theorem lp2 {A1 A2 : Type} (W : Nat → A1 → A2 → Prop) (I : A1 → A2 → Prop) (μ : A1 → A2 → Nat) (hs : ∀ (n : Nat) (a1 : A1) (a2 : A2), I a1 a2 → (∀ (b1 : A1) (b2 : A2), I b1 b2 → μ b1 b2 < μ a1 a2 → W n b1 b2) → W (n + 1) a1 a2) (a1 : A1) (a2 : A2) (h : I a1 a2) : ∃ n, W n a1 a2 :=
  loop_m (σ := A1 × A2) (fun n s => W n s.1 s.2) (fun s => I s.1 s.2) (fun s => μ s.1 s.2) (fun n s hI hk => hs n s.1 s.2 hI (fun b1 b2 h9 hm => hk (b1, b2) h9 hm)) (a1, a2) h
theorem lp3 {A1 A2 A3 : Type} (W : Nat → A1 → A2 → A3 → Prop) (I : A1 → A2 → A3 → Prop) (μ : A1 → A2 → A3 → Nat) (hs : ∀ (n : Nat) (a1 : A1) (a2 : A2) (a3 : A3), I a1 a2 a3 → (∀ (b1 : A1) (b2 : A2) (b3 : A3), I b1 b2 b3 → μ b1 b2 b3 < μ a1 a2 a3 → W n b1 b2 b3) → W (n + 1) a1 a2 a3) (a1 : A1) (a2 : A2) (a3 : A3) (h : I a1 a2 a3) : ∃ n, W n a1 a2 a3 :=
  loop_m (σ := A1 × A2 × A3) (fun n s => W n s.1 s.2.1 s.2.2) (fun s => I s.1 s.2.1 s.2.2) (fun s => μ s.1 s.2.1 s.2.2) (fun n s hI hk => hs n s.1 s.2.1 s.2.2 hI (fun b1 b2 b3 h9 hm => hk (b1, b2, b3) h9 hm)) (a1, a2, a3) h
theorem lp4 {A1 A2 A3 A4 : Type} (W : Nat → A1 → A2 → A3 → A4 → Prop) (I : A1 → A2 → A3 → A4 → Prop) (μ : A1 → A2 → A3 → A4 → Nat) (hs : ∀ (n : Nat) (a1 : A1) (a2 : A2) (a3 : A3) (a4 : A4), I a1 a2 a3 a4 → (∀ (b1 : A1) (b2 : A2) (b3 : A3) (b4 : A4), I b1 b2 b3 b4 → μ b1 b2 b3 b4 < μ a1 a2 a3 a4 → W n b1 b2 b3 b4) → W (n + 1) a1 a2 a3 a4) (a1 : A1) (a2 : A2) (a3 : A3) (a4 : A4) (h : I a1 a2 a3 a4) : ∃ n, W n a1 a2 a3 a4 :=
  loop_m (σ := A1 × A2 × A3 × A4) (fun n s => W n s.1 s.2.1 s.2.2.1 s.2.2.2) (fun s => I s.1 s.2.1 s.2.2.1 s.2.2.2) (fun s => μ s.1 s.2.1 s.2.2.1 s.2.2.2) (fun n s hI hk => hs n s.1 s.2.1 s.2.2.1 s.2.2.2 hI (fun b1 b2 b3 b4 h9 hm => hk (b1, b2, b3, b4) h9 hm)) (a1, a2, a3, a4) h
theorem lp5 {A1 A2 A3 A4 A5 : Type} (W : Nat → A1 → A2 → A3 → A4 → A5 → Prop) (I : A1 → A2 → A3 → A4 → A5 → Prop) (μ : A1 → A2 → A3 → A4 → A5 → Nat) (hs : ∀ (n : Nat) (a1 : A1) (a2 : A2) (a3 : A3) (a4 : A4) (a5 : A5), I a1 a2 a3 a4 a5 → (∀ (b1 : A1) (b2 : A2) (b3 : A3) (b4 : A4) (b5 : A5), I b1 b2 b3 b4 b5 → μ b1 b2 b3 b4 b5 < μ a1 a2 a3 a4 a5 → W n b1 b2 b3 b4 b5) → W (n + 1) a1 a2 a3 a4 a5) (a1 : A1) (a2 : A2) (a3 : A3) (a4 : A4) (a5 : A5) (h : I a1 a2 a3 a4 a5) : ∃ n, W n a1 a2 a3 a4 a5 :=
  loop_m (σ := A1 × A2 × A3 × A4 × A5) (fun n s => W n s.1 s.2.1 s.2.2.1 s.2.2.2.1 s.2.2.2.2) (fun s => I s.1 s.2.1 s.2.2.1 s.2.2.2.1 s.2.2.2.2) (fun s => μ s.1 s.2.1 s.2.2.1 s.2.2.2.1 s.2.2.2.2) (fun n s hI hk => hs n s.1 s.2.1 s.2.2.1 s.2.2.2.1 s.2.2.2.2 hI (fun b1 b2 b3 b4 b5 h9 hm => hk (b1, b2, b3, b4, b5) h9 hm)) (a1, a2, a3, a4, a5) h
end
section
/-! ===== bits ===== -/
theorem ad_one (i : Nat) : bt 1 i = decide (i = 0) := by
  rcases Nat.lt_or_ge i 32 with h | h
  · exact (by decide +kernel : ∀ i, i < 32 → bt 1 i = decide (i = 0)) i h
  · rw [b_big h, decide_eq_false (by omega)]
theorem ad_bit {n : Nat} (hn : n < 32) (i : Nat) : bt ((1 : Int32) <<< (nI n &&& 31)) i = true ↔ i = n := by
  rcases Nat.lt_or_ge i 32 with h | h
  · rw [b_shl n hn 1 h, ad_one]
    simp only [Bool.and_eq_true, decide_eq_true_eq]
    omega
  · rw [b_big h]
    constructor
    · intro z; cases z
    · intro z; omega
theorem ad_has {m : Int32} {i : Nat} (hi : i < 32) : ((m >>> (nI i &&& 31)) &&& 1) = 0 ↔ ¬ bt m i = true := by
  have e0 : bt ((m >>> (nI i &&& 31)) &&& 1) 0 = bt m i := by
    rw [b_and, b_sshr i hi m (by omega), ad_one]
    simp [hi]
  constructor
  · intro h hb
    rw [h, b_0] at e0
    rw [← e0] at hb
    cases hb
  · intro h
    apply b_ext
    intro j hj
    rw [b_0]
    by_cases z : j = 0
    · subst z
      rw [e0]
      cases hb : bt m i
      · rfl
      · exact absurd hb h
    · rw [b_and, ad_one, decide_eq_false z, Bool.and_false]
theorem ad_and0 (x y : Int32) : (x &&& y) = 0 ↔ ¬ ∃ q, bt x q = true ∧ bt y q = true := by
  constructor
  · intro h ⟨q, h1, h2⟩
    have e : bt (x &&& y) q = true := by rw [b_and, h1, h2]; rfl
    rw [h, b_0] at e
    cases e
  · intro h
    apply b_ext
    intro q _
    rw [b_0, b_and]
    cases h1 : bt x q
    · rfl
    · cases h2 : bt y q
      · rfl
      · exact absurd ⟨q, h1, h2⟩ h
theorem ad_orb (x y : Int32) (i : Nat) : bt (x ||| y) i = true ↔ bt x i = true ∨ bt y i = true := by
  rw [b_or, Bool.or_eq_true]
theorem ad_bext {x y : Int32} (h : ∀ i, bt x i = true ↔ bt y i = true) : x = y := b_ext fun i _ => Bool.eq_iff_iff.mpr (h i)
theorem ad_ff {b : Bool} (h : ¬ b = true) : b = false := by cases b <;> simp_all
/-! ===== counts ===== -/
def ad_cn (P : Nat → Bool) : Nat → Nat
  | 0 => 0
  | n + 1 => ad_cn P n + (if P n = true then 1 else 0)
theorem ad_cn_le (P : Nat → Bool) (n : Nat) : ad_cn P n ≤ n := by
  induction n with
  | zero => exact Nat.le_refl 0
  | succ n ih =>
    show ad_cn P n + (if P n = true then 1 else 0) ≤ n + 1
    split <;> omega
theorem ad_cn_mono {P Q : Nat → Bool} (n : Nat) (h : ∀ i, i < n → P i = true → Q i = true) : ad_cn P n ≤ ad_cn Q n := by
  induction n with
  | zero => exact Nat.le_refl 0
  | succ n ih =>
    show ad_cn P n + (if P n = true then 1 else 0) ≤ ad_cn Q n + (if Q n = true then 1 else 0)
    have h1 := ih (fun i hi => h i (by omega))
    by_cases hp : P n = true
    · rw [if_pos hp, if_pos (h n (by omega) hp)]; omega
    · rw [if_neg hp]; split <;> omega
theorem ad_cn_lt {P Q : Nat → Bool} (n : Nat) (h : ∀ i, i < n → P i = true → Q i = true) (j : Nat) (hj : j < n) (hq : Q j = true) (hp : ¬ P j = true) : ad_cn P n < ad_cn Q n := by
  induction n with
  | zero => omega
  | succ n ih =>
    show ad_cn P n + (if P n = true then 1 else 0) < ad_cn Q n + (if Q n = true then 1 else 0)
    by_cases e : j = n
    · subst e
      have h1 := ad_cn_mono j (fun i hi => h i (by omega))
      rw [if_neg hp, if_pos hq]; omega
    · have h1 := ih (fun i hi => h i (by omega)) (by omega)
      by_cases hp2 : P n = true
      · rw [if_pos hp2, if_pos (h n (by omega) hp2)]; omega
      · rw [if_neg hp2]; split <;> omega
theorem ad_cn_eq {P Q : Nat → Bool} (n : Nat) (h : ∀ i, i < n → P i = Q i) : ad_cn P n = ad_cn Q n :=
  Nat.le_antisymm (ad_cn_mono n fun i hi hp => by rw [← h i hi]; exact hp) (ad_cn_mono n fun i hi hp => by rw [h i hi]; exact hp)
theorem ad_cn_full {P : Nat → Bool} (n : Nat) (h : n ≤ ad_cn P n) : ∀ i, i < n → P i = true := by
  intro i hi
  by_cases hp : P i = true
  · exact hp
  · have h1 := ad_cn_lt (P := P) (Q := fun _ => true) n (fun _ _ _ => rfl) i hi rfl hp
    have h2 := ad_cn_le (fun _ => true) n
    omega
theorem ad_cn_0 {P : Nat → Bool} (n : Nat) (h : ad_cn P n = 0) : ∀ i, i < n → ¬ P i = true := by
  intro i hi hp
  have h1 := ad_cn_lt (P := fun _ => false) (Q := P) n (fun _ _ z => by cases z) i hi hp (by decide)
  omega
theorem ad_cn_pos {P : Nat → Bool} (n i : Nat) (hi : i < n) (hp : P i = true) : 0 < ad_cn P n := by
  have h1 := ad_cn_lt (P := fun _ => false) (Q := P) n (fun _ _ z => by cases z) i hi hp (by decide)
  omega
/-- the least i below n with P, if there is one -/
theorem ad_least (P : Nat → Bool) (n : Nat) (h : ∃ i, i < n ∧ P i = true) : ∃ i, i < n ∧ P i = true ∧ ∀ j, j < i → ¬ P j = true := by
  induction n with
  | zero => obtain ⟨i, hi, _⟩ := h; exact absurd hi (Nat.not_lt_zero i)
  | succ n ih =>
    by_cases z : ∃ i, i < n ∧ P i = true
    · obtain ⟨i, hi, hp, hl⟩ := ih z
      exact ⟨i, by omega, hp, hl⟩
    · obtain ⟨i, hi, hp⟩ := h
      have e : i = n := by
        by_cases q : i < n
        · exact absurd ⟨i, q, hp⟩ z
        · omega
      subst e
      exact ⟨i, hi, hp, fun j hj hj2 => z ⟨j, hj, hj2⟩⟩
/-! ===== chains ===== -/
def ad_ch (E : Nat → Nat → Nat → Prop) (sy : Nat → Nat) (i : Nat) : Nat → Nat → Nat → Prop
  | 0, p, q => p = q
  | d + 1, p, q => ∃ m, ad_ch E sy i d p m ∧ E (sy (i + d)) m q
theorem ad_ch_mono {E E' : Nat → Nat → Nat → Prop} {sy : Nat → Nat} {i : Nat} (h : ∀ s p q, E s p q → E' s p q) : ∀ d p q, ad_ch E sy i d p q → ad_ch E' sy i d p q := by
  intro d
  induction d with
  | zero => exact fun p q e => e
  | succ d ih =>
    intro p q ⟨m, h1, h2⟩
    exact ⟨m, ih p m h1, h _ _ _ h2⟩
theorem ad_ch_cons {E : Nat → Nat → Nat → Prop} {sy : Nat → Nat} {i : Nat} : ∀ d p q, ad_ch E sy i (d + 1) p q ↔ ∃ m, E (sy i) p m ∧ ad_ch E sy (i + 1) d m q := by
  intro d
  induction d with
  | zero =>
    intro p q
    constructor
    · intro ⟨m, h1, h2⟩
      have e : p = m := h1
      subst e
      exact ⟨q, h2, rfl⟩
    · intro ⟨m, h1, h2⟩
      have e : m = q := h2
      subst e
      exact ⟨p, rfl, h1⟩
  | succ d ih =>
    intro p q
    have ea : i + 1 + d = i + (d + 1) := by omega
    constructor
    · intro ⟨m, h1, h2⟩
      obtain ⟨m', h3, h4⟩ := (ih p m).mp h1
      refine ⟨m', h3, m, h4, ?_⟩
      rw [ea]
      exact h2
    · intro ⟨m', h3, m, h4, h2⟩
      rw [ea] at h2
      exact ⟨m, (ih p m).mpr ⟨m', h3, h4⟩, h2⟩
/-! ===== the grammar: alternatives, symbols in all, rule, start, length of an alternative, symbols ===== -/
abbrev ad_G : Type := Nat × Nat × (Nat → Nat) × (Nat → Nat) × (Nat → Nat) × (Nat → Nat)
def ad_C (g : ad_G) : Nat := g.1
def ad_M (g : ad_G) : Nat := g.2.1
def ad_ru (g : ad_G) : Nat → Nat := g.2.2.1
def ad_st (g : ad_G) : Nat → Nat := g.2.2.2.1
def ad_ln (g : ad_G) : Nat → Nat := g.2.2.2.2.1
def ad_sy (g : ad_G) : Nat → Nat := g.2.2.2.2.2
def ad_wf (g : ad_G) : Prop := ad_C g ≤ 16 ∧ ad_M g ≤ 48 ∧ (∀ a, a < ad_C g → ad_ru g a < 8 ∧ ad_st g a + ad_ln g a ≤ ad_M g) ∧ (∀ i, i < ad_M g → ad_sy g i < 24)
theorem ad_wsy {g : ad_G} (h : ad_wf g) {a k : Nat} (ha : a < ad_C g) (hk : k < ad_ln g a) : ad_sy g (ad_st g a + k) < 24 := by
  have h1 := (h.2.2.1 a ha).2
  exact h.2.2.2 _ (by omega)
/-- an alternative made of S alone (T: and of terminals) -/
def ad_ok (g : ad_G) (T : Bool) (S : Nat → Prop) (a : Nat) : Prop :=
  ∀ k, k < ad_ln g a → (ad_sy g (ad_st g a + k) < 16 ∧ T = true) ∨ (16 ≤ ad_sy g (ad_st g a + k) ∧ S (ad_sy g (ad_st g a + k) - 16))
def ad_cS (g : ad_G) (T : Bool) (S : Nat → Prop) : Prop := ∀ a, a < ad_C g → ad_ok g T S a → S (ad_ru g a)
def ad_LS (g : ad_G) (T : Bool) (r : Nat) : Prop := ∀ S : Nat → Prop, ad_cS g T S → S r
theorem ad_ok_mono {g : ad_G} {T : Bool} {S S' : Nat → Prop} (h : ∀ r, S r → S' r) {a : Nat} (ho : ad_ok g T S a) : ad_ok g T S' a := fun k hk =>
  (ho k hk).elim Or.inl (fun z => Or.inr ⟨z.1, h _ z.2⟩)
theorem ad_LS_c (g : ad_G) (T : Bool) : ad_cS g T (ad_LS g T) := fun a ha ho S hS => hS a ha (ad_ok_mono (fun _ hr => hr S hS) ho)
/-- r begins with q -/
def ad_bw (g : ad_G) (r q : Nat) : Prop :=
  ∃ a, a < ad_C g ∧ ad_ru g a = r ∧ ∃ k, k < ad_ln g a ∧ ad_sy g (ad_st g a + k) = 16 + q ∧ ∀ j, j < k → 16 ≤ ad_sy g (ad_st g a + j) ∧ ad_LS g false (ad_sy g (ad_st g a + j) - 16)
theorem ad_bw_lt {g : ad_G} (h : ad_wf g) {r q : Nat} (hb : ad_bw g r q) : r < 8 ∧ q < 8 := by
  obtain ⟨a, ha, e, k, hk, es, _⟩ := hb
  have h1 := (h.2.2.1 a ha).1
  have h2 := ad_wsy h ha hk
  omega
def ad_RK (g : ad_G) : Prop := ∃ rk : Nat → Nat, (∀ r, r < 8 → rk r < 8) ∧ ∀ r q, ad_bw g r q → rk q < rk r
/-- the rules of r's begins-with, closed -/
def ad_TC (R : Nat → Nat → Prop) (r q : Nat) : Prop := ∀ S : Nat → Nat → Prop, (∀ x y, R x y → S x y) → (∀ x y z, S x y → R y z → S x z) → S r q
theorem ad_TC_1 {R : Nat → Nat → Prop} {r q : Nat} (h : R r q) : ad_TC R r q := fun _ h1 _ => h1 _ _ h
theorem ad_TC_s {R : Nat → Nat → Prop} {r q z : Nat} (h : ad_TC R r q) (h2 : R q z) : ad_TC R r z := fun S a b => b _ _ _ (h S a b) h2
theorem ad_TC_t {R : Nat → Nat → Prop} {r q z : Nat} (h : ad_TC R r q) (h2 : ad_TC R q z) : ad_TC R r z :=
  h2 (fun x y => ad_TC R r x → ad_TC R r y) (fun _ _ hxy hx => ad_TC_s hx hxy) (fun _ _ _ f hyz hx => ad_TC_s (f hx) hyz) h
/-- a rank out of a closed relation without a loop -/
theorem ad_rank {g : ad_G} (h : ad_wf g) (f : Nat → Nat → Bool) (h1 : ∀ r q, ad_bw g r q → f r q = true) (h2 : ∀ r k q, r < 8 → k < 8 → q < 8 → f r k = true → f k q = true → f r q = true) (h3 : ∀ r, r < 8 → ¬ f r r = true) : ad_RK g := by
  refine ⟨fun r => ad_cn (f r) 8, ?_, ?_⟩
  · intro r hr
    show ad_cn (f r) 8 < 8
    have := ad_cn_lt (P := f r) (Q := fun _ => true) 8 (fun _ _ _ => rfl) r hr rfl (h3 r hr)
    have := ad_cn_le (fun _ => true) 8
    omega
  · intro r q hb
    have hl := ad_bw_lt h hb
    exact ad_cn_lt 8 (fun i hi hp => h2 r q i hl.1 hl.2 hi (h1 r q hb) hp) q hl.2 (h1 r q hb) (h3 q hl.2)
/-! ===== spans: the least relation ===== -/
/-- a step by symbol s from p to q, S being the rules' relation -/
def ad_ts (tk : Nat → Nat) (n : Nat) (S : Nat → Nat → Nat → Prop) (s p q : Nat) : Prop := (s < 16 ∧ p < n ∧ tk p = s ∧ q = p + 1) ∨ (16 ≤ s ∧ p ≤ n ∧ S (s - 16) p q)
def ad_clo (g : ad_G) (tk : Nat → Nat) (n : Nat) (S : Nat → Nat → Nat → Prop) : Prop := ∀ a, a < ad_C g → ∀ p, p ≤ n → ∀ q, ad_ch (ad_ts tk n S) (ad_sy g) (ad_st g a) (ad_ln g a) p q → S (ad_ru g a) p q
def ad_LR (g : ad_G) (tk : Nat → Nat) (n : Nat) (r p q : Nat) : Prop := ∀ S : Nat → Nat → Nat → Prop, ad_clo g tk n S → S r p q
def ad_E (g : ad_G) (tk : Nat → Nat) (n : Nat) : Nat → Nat → Nat → Prop := ad_ts tk n (ad_LR g tk n)
theorem ad_ts_mono {tk : Nat → Nat} {n : Nat} {S S' : Nat → Nat → Nat → Prop} (h : ∀ r p q, S r p q → S' r p q) (s p q : Nat) (ht : ad_ts tk n S s p q) : ad_ts tk n S' s p q :=
  ht.elim Or.inl (fun z => Or.inr ⟨z.1, z.2.1, h _ _ _ z.2.2⟩)
theorem ad_LR_c (g : ad_G) (tk : Nat → Nat) (n : Nat) : ad_clo g tk n (ad_LR g tk n) := fun a ha p hp q hc S hS =>
  hS a ha p hp q (ad_ch_mono (ad_ts_mono fun _ _ _ hr => hr S hS) _ _ _ hc)
theorem ad_LR_i {g : ad_G} {tk : Nat → Nat} {n r p q : Nat} (h : ad_LR g tk n r p q) : ∃ a, a < ad_C g ∧ ad_ru g a = r ∧ p ≤ n ∧ ad_ch (ad_E g tk n) (ad_sy g) (ad_st g a) (ad_ln g a) p q := by
  refine h (fun r p q => ∃ a, a < ad_C g ∧ ad_ru g a = r ∧ p ≤ n ∧ ad_ch (ad_E g tk n) (ad_sy g) (ad_st g a) (ad_ln g a) p q) ?_
  intro a ha p hp q hc
  refine ⟨a, ha, rfl, hp, ad_ch_mono (ad_ts_mono ?_) _ _ _ hc⟩
  intro r p q ⟨b, hb, e, hp, hc⟩
  rw [← e]
  exact ad_LR_c g tk n b hb p hp q hc
/-- what a chain of steps keeps, B being the property of each step -/
theorem ad_ch_le {g : ad_G} {E : Nat → Nat → Nat → Prop} {n : Nat} (hE : ∀ s p q, E s p q → p ≤ q ∧ q ≤ n ∧ (p = q → 16 ≤ s ∧ ad_LS g false (s - 16))) {sy : Nat → Nat} {i : Nat} : ∀ d p q, p ≤ n → ad_ch E sy i d p q → p ≤ q ∧ q ≤ n ∧ (p = q → ∀ k, k < d → 16 ≤ sy (i + k) ∧ ad_LS g false (sy (i + k) - 16)) := by
  intro d
  induction d with
  | zero =>
    intro p q hp h
    have e : p = q := h
    subst e
    exact ⟨Nat.le_refl p, hp, fun _ k hk => absurd hk (Nat.not_lt_zero k)⟩
  | succ d ih =>
    intro p q hp ⟨m, h1, h2⟩
    obtain ⟨a1, a2, a3⟩ := ih p m hp h1
    obtain ⟨b1, b2, b3⟩ := hE _ _ _ h2
    refine ⟨by omega, b2, fun e k hk => ?_⟩
    by_cases z : k = d
    · subst z
      exact b3 (by omega)
    · exact a3 (by omega) k (by omega)
theorem ad_LR_le {g : ad_G} {tk : Nat → Nat} {n r p q : Nat} (h : ad_LR g tk n r p q) : p ≤ q ∧ q ≤ n ∧ (p = q → ad_LS g false r) := by
  refine h (fun r p q => p ≤ q ∧ q ≤ n ∧ (p = q → ad_LS g false r)) ?_
  intro a ha p hp q hc
  have h1 := ad_ch_le (g := g) (n := n) (E := ad_ts tk n (fun r p q => p ≤ q ∧ q ≤ n ∧ (p = q → ad_LS g false r))) (fun s p q hs => by
    rcases hs with ⟨z1, z2, z3, z4⟩ | ⟨z1, z2, z3, z4, z5⟩
    · exact ⟨by omega, by omega, fun e => absurd e (by omega)⟩
    · exact ⟨z3, z4, fun e => ⟨z1, z5 e⟩⟩) _ p q hp hc
  exact ⟨h1.1, h1.2.1, fun e => ad_LS_c g false a ha (fun k hk => Or.inr (h1.2.2 e k hk))⟩
theorem ad_E_le {g : ad_G} {tk : Nat → Nat} {n s p q : Nat} (h : ad_E g tk n s p q) : p ≤ q ∧ q ≤ n ∧ (p = q → 16 ≤ s ∧ ad_LS g false (s - 16)) := by
  rcases h with ⟨z1, z2, z3, z4⟩ | ⟨z1, z2, z3⟩
  · exact ⟨by omega, by omega, fun e => absurd e (by omega)⟩
  · have h1 := ad_LR_le z3
    exact ⟨h1.1, h1.2.1, fun e => ⟨z1, h1.2.2 e⟩⟩
/-- the chain of an alternative from P by what stands already -/
theorem ad_key {g : ad_G} {tk : Nat → Nat} {n P j : Nat} {rk : Nat → Nat} (hr : ∀ r q, ad_bw g r q → rk q < rk r) {E' : Nat → Nat → Nat → Prop}
    (ht : ∀ s p q, s < 16 → ad_E g tk n s p q → E' s p q)
    (hl : ∀ s p q, P < p → ad_E g tk n s p q → E' s p q)
    (hP : ∀ s q, 16 ≤ s → rk (s - 16) < j → ad_E g tk n s P q → E' s P q)
    {a : Nat} (ha : a < ad_C g) (hja : rk (ad_ru g a) ≤ j) : ∀ d q, d ≤ ad_ln g a → ad_ch (ad_E g tk n) (ad_sy g) (ad_st g a) d P q → ad_ch E' (ad_sy g) (ad_st g a) d P q ∧ P ≤ q ∧ (P = q → ∀ k, k < d → 16 ≤ ad_sy g (ad_st g a + k) ∧ ad_LS g false (ad_sy g (ad_st g a + k) - 16)) := by
  intro d
  induction d with
  | zero =>
    intro q _ h
    have e : P = q := h
    subst e
    exact ⟨rfl, Nat.le_refl P, fun _ k hk => absurd hk (Nat.not_lt_zero k)⟩
  | succ d ih =>
    intro q hd ⟨m, h1, h2⟩
    obtain ⟨a1, a2, a3⟩ := ih m (by omega) h1
    have b := ad_E_le h2
    refine ⟨⟨m, a1, ?_⟩, by omega, fun e k hk => ?_⟩
    · by_cases z : P = m
      · subst z
        by_cases z2 : ad_sy g (ad_st g a + d) < 16
        · exact ht _ _ _ z2 h2
        · refine hP _ _ (by omega) ?_ h2
          have : ad_bw g (ad_ru g a) (ad_sy g (ad_st g a + d) - 16) := ⟨a, ha, rfl, d, by omega, by omega, a3 rfl⟩
          have := hr _ _ this
          omega
      · exact hl _ _ _ (by omega) h2
    · by_cases z : k = d
      · subst z
        exact b.2.2 (by omega)
      · exact a3 (by omega) k (by omega)
end
section
/-! ===== images of sets of places ===== -/
/-- the union of c p over the p below k in m -/
def ad_pa (c : Nat → Int32) (m : Int32) : Nat → Int32
  | 0 => 0
  | p + 1 => if bt m p = true then ad_pa c m p ||| c p else ad_pa c m p
theorem ad_pa_b (c : Nat → Int32) (m : Int32) (q : Nat) : ∀ k, bt (ad_pa c m k) q = true ↔ ∃ p, p < k ∧ bt m p = true ∧ bt (c p) q = true := by
  intro k
  induction k with
  | zero =>
    show bt 0 q = true ↔ _
    rw [b_0]
    exact ⟨fun z => (nomatch z), fun ⟨p, hp, _⟩ => absurd hp (Nat.not_lt_zero p)⟩
  | succ k ih =>
    show bt (if bt m k = true then ad_pa c m k ||| c k else ad_pa c m k) q = true ↔ _
    by_cases hb : bt m k = true
    · rw [if_pos hb, ad_orb, ih]
      constructor
      · intro h
        rcases h with ⟨p, h1, h2⟩ | h
        · exact ⟨p, by omega, h2⟩
        · exact ⟨k, by omega, hb, h⟩
      · intro ⟨p, h1, h2, h3⟩
        by_cases e : p = k
        · subst e; exact Or.inr h3
        · exact Or.inl ⟨p, by omega, h2, h3⟩
    · rw [if_neg hb, ih]
      constructor
      · intro ⟨p, h1, h2⟩
        exact ⟨p, by omega, h2⟩
      · intro ⟨p, h1, h2, h3⟩
        by_cases e : p = k
        · subst e; exact absurd h2 hb
        · exact ⟨p, by omega, h2, h3⟩
theorem ad_pa_eq {c c' : Nat → Int32} {m : Int32} : ∀ k, (∀ p, p < k → c p = c' p) → ad_pa c m k = ad_pa c' m k := by
  intro k
  induction k with
  | zero => exact fun _ => rfl
  | succ k ih =>
    intro h
    show (if bt m k = true then ad_pa c m k ||| c k else ad_pa c m k) = (if bt m k = true then ad_pa c' m k ||| c' k else ad_pa c' m k)
    rw [ih (fun p hp => h p (by omega)), h k (by omega)]
/-- the relation that columns hold -/
def ad_cE (n : Nat) (col : Nat → Nat → Int32) (s p q : Nat) : Prop := p ≤ n ∧ bt (col s p) q = true
/-- d symbols from i on -/
def ad_ae (n : Nat) (col : Nat → Nat → Int32) (sy : Nat → Nat) (i : Nat) : Nat → Int32 → Int32
  | 0, m => m
  | d + 1, m => ad_pa (col (sy (i + d))) (ad_ae n col sy i d m) (n + 1)
theorem ad_ae_b (n : Nat) (col : Nat → Nat → Int32) (sy : Nat → Nat) (i : Nat) (m : Int32) : ∀ d q, bt (ad_ae n col sy i d m) q = true ↔ ∃ p, bt m p = true ∧ ad_ch (ad_cE n col) sy i d p q := by
  intro d
  induction d with
  | zero =>
    intro q
    exact ⟨fun h => ⟨q, h, rfl⟩, fun ⟨p, h1, h2⟩ => by have e : p = q := h2; subst e; exact h1⟩
  | succ d ih =>
    intro q
    show bt (ad_pa (col (sy (i + d))) (ad_ae n col sy i d m) (n + 1)) q = true ↔ _
    rw [ad_pa_b]
    constructor
    · intro ⟨k, h1, h2, h3⟩
      obtain ⟨p, h4, h5⟩ := (ih k).mp h2
      exact ⟨p, h4, k, h5, by omega, h3⟩
    · intro ⟨p, h4, k, h5, h6, h7⟩
      exact ⟨k, by omega, (ih k).mpr ⟨p, h4, h5⟩, h7⟩
theorem ad_ae_1 (n : Nat) (col : Nat → Nat → Int32) (sy : Nat → Nat) (i d : Nat) {p : Nat} (hp : p < 32) (q : Nat) : bt (ad_ae n col sy i d ((1 : Int32) <<< (nI p &&& 31))) q = true ↔ ad_ch (ad_cE n col) sy i d p q := by
  rw [ad_ae_b]
  constructor
  · intro ⟨p', h1, h2⟩
    rw [ad_bit hp] at h1
    subst h1
    exact h2
  · intro h
    exact ⟨p, (ad_bit hp p).mpr rfl, h⟩
theorem ad_ae_eq {n : Nat} {col col' : Nat → Nat → Int32} {sy : Nat → Nat} {i : Nat} {m : Int32} : ∀ d, (∀ k p, k < d → p ≤ n → col (sy (i + k)) p = col' (sy (i + k)) p) → ad_ae n col sy i d m = ad_ae n col' sy i d m := by
  intro d
  induction d with
  | zero => exact fun _ => rfl
  | succ d ih =>
    intro h
    show ad_pa (col (sy (i + d))) (ad_ae n col sy i d m) (n + 1) = ad_pa (col' (sy (i + d))) (ad_ae n col' sy i d m) (n + 1)
    rw [ih (fun k p hk hp => h k p (by omega) hp)]
    exact ad_pa_eq _ (fun p hp => h d p (by omega) (by omega))
/-- the places below k from which c leads into e -/
def ad_pb (c : Nat → Int32) (e : Int32) : Nat → Int32
  | 0 => 0
  | p + 1 => if (c p &&& e) = 0 then ad_pb c e p else ad_pb c e p ||| ((1 : Int32) <<< (nI p &&& 31))
theorem ad_pb_b (c : Nat → Int32) (e : Int32) (p : Nat) : ∀ k, k ≤ 32 → (bt (ad_pb c e k) p = true ↔ p < k ∧ ∃ q, bt (c p) q = true ∧ bt e q = true) := by
  intro k
  induction k with
  | zero =>
    intro _
    show bt 0 p = true ↔ _
    rw [b_0]
    exact ⟨fun z => (nomatch z), fun ⟨hp, _⟩ => absurd hp (Nat.not_lt_zero p)⟩
  | succ k ih =>
    intro hk
    have ih := ih (by omega)
    show bt (if (c k &&& e) = 0 then ad_pb c e k else ad_pb c e k ||| ((1 : Int32) <<< (nI k &&& 31))) p = true ↔ _
    by_cases hz : (c k &&& e) = 0
    · rw [if_pos hz, ih]
      rw [ad_and0] at hz
      constructor
      · intro ⟨h1, h2⟩
        exact ⟨by omega, h2⟩
      · intro ⟨h1, h2⟩
        by_cases e2 : p = k
        · subst e2; exact absurd h2 hz
        · exact ⟨by omega, h2⟩
    · rw [if_neg hz, ad_orb, ih, ad_bit (by omega)]
      have hz2 : ∃ q, bt (c k) q = true ∧ bt e q = true := Classical.byContradiction fun z => hz ((ad_and0 _ _).mpr z)
      constructor
      · intro h
        rcases h with ⟨h1, h2⟩ | h
        · exact ⟨by omega, h2⟩
        · subst h; exact ⟨by omega, hz2⟩
      · intro ⟨h1, h2⟩
        by_cases e2 : p = k
        · exact Or.inr e2
        · exact Or.inl ⟨by omega, h2⟩
/-- the last d symbols before stop, backwards -/
def ad_gl (n : Nat) (col : Nat → Nat → Int32) (sy : Nat → Nat) (stop : Nat) : Nat → Int32 → Int32
  | 0, e => e
  | d + 1, e => ad_pb (col (sy (stop - (d + 1)))) (ad_gl n col sy stop d e) (n + 1)
theorem ad_gl_b {n : Nat} (hn : n < 32) (col : Nat → Nat → Int32) (sy : Nat → Nat) (stop : Nat) (e : Int32) : ∀ d p, d ≤ stop → (bt (ad_gl n col sy stop d e) p = true ↔ ∃ q, ad_ch (ad_cE n col) sy (stop - d) d p q ∧ bt e q = true) := by
  intro d
  induction d with
  | zero =>
    intro p _
    exact ⟨fun h => ⟨p, rfl, h⟩, fun ⟨q, h1, h2⟩ => by have e : p = q := h1; subst e; exact h2⟩
  | succ d ih =>
    intro p hd
    have ea : stop - (d + 1) + 1 = stop - d := by omega
    show bt (ad_pb (col (sy (stop - (d + 1)))) (ad_gl n col sy stop d e) (n + 1)) p = true ↔ _
    rw [ad_pb_b _ _ _ _ (by omega)]
    constructor
    · intro ⟨h1, m, h2, h3⟩
      obtain ⟨q, h4, h5⟩ := (ih m (by omega)).mp h3
      refine ⟨q, (ad_ch_cons d p q).mpr ⟨m, ⟨by omega, h2⟩, ?_⟩, h5⟩
      rw [ea]; exact h4
    · intro ⟨q, h4, h5⟩
      obtain ⟨m, ⟨h1, h2⟩, h6⟩ := (ad_ch_cons d p q).mp h4
      rw [ea] at h6
      exact ⟨by omega, m, h2, (ih m (by omega)).mpr ⟨q, h6, h5⟩⟩
/-! ===== columns that hold the least relation ===== -/
def ad_cX (sp : Nat → Int32) (s p : Nat) : Int32 := sp (s * 13 + p)
def ad_cY (tk : Nat → Nat) (n : Nat) (en : Nat → Int32) (s p : Nat) : Int32 :=
  if s < 16 then (if p < n ∧ tk p = s then (1 : Int32) <<< (nI (p + 1) &&& 31) else 0) else en ((s - 16) * 13 + p)
/-- columns are exact -/
def ad_ex (g : ad_G) (tk : Nat → Nat) (n : Nat) (col : Nat → Nat → Int32) : Prop := ∀ s p q, s < 24 → p ≤ n → (bt (col s p) q = true ↔ ad_E g tk n s p q)
theorem ad_ex_eq {g : ad_G} {tk : Nat → Nat} {n : Nat} {c c' : Nat → Nat → Int32} (h : ad_ex g tk n c) (h' : ad_ex g tk n c') {s p : Nat} (hs : s < 24) (hp : p ≤ n) : c s p = c' s p :=
  ad_bext fun q => (h s p q hs hp).trans (h' s p q hs hp).symm
theorem ad_E_n {g : ad_G} {tk : Nat → Nat} {n s p q : Nat} (h : ad_E g tk n s p q) : p ≤ n := by
  rcases h with h | h
  · omega
  · exact h.2.1
theorem ad_ex_cE {g : ad_G} {tk : Nat → Nat} {n : Nat} {c : Nat → Nat → Int32} (h : ad_ex g tk n c) {s p q : Nat} (hs : s < 24) : ad_cE n c s p q ↔ ad_E g tk n s p q :=
  ⟨fun z => (h s p q hs z.1).mp z.2, fun z => ⟨ad_E_n z, (h s p q hs (ad_E_n z)).mpr z⟩⟩
/-- chains agree where the symbols' steps do -/
theorem ad_ch_iff {E E' : Nat → Nat → Nat → Prop} {sy : Nat → Nat} {i : Nat} : ∀ d p q, (∀ k, k < d → ∀ p q, E (sy (i + k)) p q ↔ E' (sy (i + k)) p q) → (ad_ch E sy i d p q ↔ ad_ch E' sy i d p q) := by
  intro d
  induction d with
  | zero => exact fun p q _ => Iff.rfl
  | succ d ih =>
    intro p q h
    constructor
    · intro ⟨m, h1, h2⟩
      exact ⟨m, (ih p m (fun k hk => h k (by omega))).mp h1, (h d (by omega) m q).mp h2⟩
    · intro ⟨m, h1, h2⟩
      exact ⟨m, (ih p m (fun k hk => h k (by omega))).mpr h1, (h d (by omega) m q).mpr h2⟩
/-- the chain of an alternative over exact columns -/
theorem ad_ex_ch {g : ad_G} (w : ad_wf g) {tk : Nat → Nat} {n : Nat} {c : Nat → Nat → Int32} (h : ad_ex g tk n c) {a i d : Nat} (ha : a < ad_C g) (hi : ad_st g a ≤ i) (hd : i + d ≤ ad_st g a + ad_ln g a) (p q : Nat) : ad_ch (ad_cE n c) (ad_sy g) i d p q ↔ ad_ch (ad_E g tk n) (ad_sy g) i d p q :=
  ad_ch_iff d p q fun k hk p q => ad_ex_cE h (w.2.2.2 _ (by have := (w.2.2.1 a ha).2; omega))
/-! ===== how far the input can be read: the least relation ===== -/
def ad_cP (g : ad_G) (tk : Nat → Nat) (n : Nat) (S : Nat → Nat → Nat → Prop) : Prop :=
  ∀ a, a < ad_C g → ∀ p, p ≤ n → (∀ k q, k ≤ ad_ln g a → ad_ch (ad_E g tk n) (ad_sy g) (ad_st g a) k p q → S (ad_ru g a) p q) ∧
    (∀ k m q, k < ad_ln g a → ad_ch (ad_E g tk n) (ad_sy g) (ad_st g a) k p m → 16 ≤ ad_sy g (ad_st g a + k) → S (ad_sy g (ad_st g a + k) - 16) m q → S (ad_ru g a) p q)
def ad_PR (g : ad_G) (tk : Nat → Nat) (n : Nat) (r p q : Nat) : Prop := ∀ S : Nat → Nat → Nat → Prop, ad_cP g tk n S → S r p q
theorem ad_PR_c (g : ad_G) (tk : Nat → Nat) (n : Nat) : ad_cP g tk n (ad_PR g tk n) := fun a ha p hp =>
  ⟨fun k q hk hc S hS => (hS a ha p hp).1 k q hk hc, fun k m q hk hc hs hr S hS => (hS a ha p hp).2 k m q hk hc hs (hr S hS)⟩
/-- the greatest i below k in P, or 0 -/
def ad_mx (P : Nat → Bool) : Nat → Nat
  | 0 => 0
  | k + 1 => if P k = true then k else ad_mx P k
theorem ad_mx_eq {P Q : Nat → Bool} (h : ∀ i, 0 < i → (P i = true ↔ Q i = true)) : ∀ k, ad_mx P k = ad_mx Q k := by
  intro k
  induction k with
  | zero => rfl
  | succ k ih =>
    show (if P k = true then k else ad_mx P k) = (if Q k = true then k else ad_mx Q k)
    by_cases hk : 0 < k
    · have h1 := h k hk
      by_cases hp : P k = true
      · rw [if_pos hp, if_pos (h1.mp hp)]
      · rw [if_neg hp, if_neg (fun z => hp (h1.mpr z)), ih]
    · have e : k = 0 := by omega
      subst e
      show (if P 0 = true then 0 else 0) = (if Q 0 = true then 0 else 0)
      split <;> split <;> rfl
theorem ad_mx_le (P : Nat → Bool) : ∀ k, ad_mx P (k + 1) ≤ k := by
  intro k
  induction k with
  | zero =>
    show (if P 0 = true then 0 else 0) ≤ 0
    split <;> omega
  | succ k ih =>
    show (if P (k + 1) = true then k + 1 else ad_mx P (k + 1)) ≤ k + 1
    split <;> omega
/-! ===== rounds: 'all is done, or the measure has grown' ===== -/
/-- after the items before a of a round that began at measure at least j: all done so far, or grown -/
def ad_rin (fine : Nat → Prop) (done : Prop) (j mu a : Nat) : Prop := ((∀ b, b < a → fine b) ∧ (done ∨ j ≤ mu)) ∨ j + 1 ≤ mu
def ad_rout (done : Prop) (j mu : Nat) : Prop := done ∨ j ≤ mu
theorem ad_rin_0 {fine : Nat → Prop} {done : Prop} {j mu : Nat} (h : ad_rout done j mu) : ad_rin fine done j mu 0 := Or.inl ⟨fun b hb => absurd hb (Nat.not_lt_zero b), h⟩
theorem ad_rin_e {fine : Nat → Prop} {done : Prop} {j mu C : Nat} (hd : (∀ b, b < C → fine b) → done) (h : ad_rin fine done j mu C) : ad_rout done (j + 1) mu := h.elim (fun z => Or.inl (hd z.1)) Or.inr
/-- nothing changed and item a is fine -/
theorem ad_rin_s {fine : Nat → Prop} {done : Prop} {j mu a : Nat} (h : ad_rin fine done j mu a) (hf : fine a) : ad_rin fine done j mu (a + 1) :=
  h.elim (fun z => Or.inl ⟨fun b hb => by
    by_cases e : b = a
    · rw [e]; exact hf
    · exact z.1 b (by omega), z.2⟩) Or.inr
/-- something changed: the measure grew, and 'done' was not yet so -/
theorem ad_rin_g {fine fine' : Nat → Prop} {done done' : Prop} {j mu mu' a : Nat} (h : ad_rin fine done j mu a) (hn : ¬ done) (hm : mu < mu') : ad_rin fine' done' j mu' (a + 1) := by
  rcases h with ⟨_, h | h⟩ | h
  · exact absurd h hn
  · exact Or.inr (by omega)
  · exact Or.inr (by omega)
end
section
/-! ===== the reference's ends ===== -/
theorem ad_cY_ts {tk : Nat → Nat} {n : Nat} (hn : n < 31) {en : Nat → Int32} (s p q : Nat) : ad_cE n (ad_cY tk n en) s p q ↔ ad_ts tk n (fun r p q => bt (en (r * 13 + p)) q = true) s p q := by
  unfold ad_cE ad_cY ad_ts
  by_cases hs : s < 16
  · rw [if_pos hs]
    by_cases hc : p < n ∧ tk p = s
    · rw [if_pos hc, ad_bit (by omega)]
      exact ⟨fun z => Or.inl ⟨hs, hc.1, hc.2, z.2⟩, fun z => ⟨by omega, z.elim (fun y => y.2.2.2) (fun y => absurd y.1 (by omega))⟩⟩
    · rw [if_neg hc, b_0]
      exact ⟨fun z => (nomatch z.2), fun z => z.elim (fun y => absurd ⟨y.2.1, y.2.2.1⟩ hc) (fun y => absurd y.1 (by omega))⟩
  · rw [if_neg hs]
    exact ⟨fun z => Or.inr ⟨by omega, z⟩, fun z => z.elim (fun y => absurd y.1 hs) (fun y => y.2)⟩
/-- the reference's array of ends: sound -/
def ad_ys (g : ad_G) (tk : Nat → Nat) (n : Nat) (en : Nat → Int32) : Prop := ∀ r p q, r < 8 → p ≤ n → bt (en (r * 13 + p)) q = true → ad_LR g tk n r p q
/-- closed at one cell -/
def ad_yc (g : ad_G) (tk : Nat → Nat) (n : Nat) (en : Nat → Int32) (r p : Nat) : Prop := ∀ a q, a < ad_C g → ad_ru g a = r → ad_ch (ad_cE n (ad_cY tk n en)) (ad_sy g) (ad_st g a) (ad_ln g a) p q → bt (en (r * 13 + p)) q = true
theorem ad_y_ex {g : ad_G} (w : ad_wf g) {tk : Nat → Nat} {n : Nat} (hn : n < 31) {en : Nat → Int32} (hs : ad_ys g tk n en) (hc : ∀ r p, r < 8 → p ≤ n → ad_yc g tk n en r p) : ad_ex g tk n (ad_cY tk n en) := by
  have hcl : ad_clo g tk n (fun r p q => bt (en (r * 13 + p)) q = true) := by
    intro a ha p hp q hch
    refine hc (ad_ru g a) p (w.2.2.1 a ha).1 hp a q ha rfl ?_
    exact (ad_ch_iff _ p q fun k _ p q => ad_cY_ts hn _ p q).mpr hch
  intro s p q h24 hp
  have h1 := ad_cY_ts (tk := tk) hn (en := en) s p q
  constructor
  · intro h
    rcases h1.mp ⟨hp, h⟩ with z | z
    · exact Or.inl z
    · exact Or.inr ⟨z.1, z.2.1, hs _ p q (by omega) hp z.2.2⟩
  · intro h
    refine (h1.mpr ?_).2
    rcases h with z | z
    · exact Or.inl z
    · exact Or.inr ⟨z.1, z.2.1, z.2.2 _ hcl⟩
/-- a sound array's chain is a chain of the least relation -/
theorem ad_y_ch {g : ad_G} (w : ad_wf g) {tk : Nat → Nat} {n : Nat} (hn : n < 31) {en : Nat → Int32} (hs : ad_ys g tk n en) {a p q : Nat} (ha : a < ad_C g) (hp : p ≤ n) (h : ad_ch (ad_cE n (ad_cY tk n en)) (ad_sy g) (ad_st g a) (ad_ln g a) p q) : ad_LR g tk n (ad_ru g a) p q := by
  refine ad_LR_c g tk n a ha p hp q ?_
  have key : ∀ d p q, d ≤ ad_ln g a → ad_ch (ad_cE n (ad_cY tk n en)) (ad_sy g) (ad_st g a) d p q → ad_ch (ad_ts tk n (ad_LR g tk n)) (ad_sy g) (ad_st g a) d p q := by
    intro d
    induction d with
    | zero => exact fun p q _ e => e
    | succ d ih =>
      intro p q hd ⟨m, h1, h2⟩
      refine ⟨m, ih p m (by omega) h1, ?_⟩
      have h24 := ad_wsy w ha (k := d) (by omega)
      rcases (ad_cY_ts hn _ _ _).mp h2 with z | z
      · exact Or.inl z
      · exact Or.inr ⟨z.1, z.2.1, hs _ _ _ (by omega) z.2.1 z.2.2⟩
  exact key _ p q (Nat.le_refl _) h
/-! ===== the component's spans ===== -/
def ad_xT (tk : Nat → Nat) (n : Nat) (sp : Nat → Int32) : Prop := ∀ s p q, s < 16 → p ≤ n → (bt (sp (s * 13 + p)) q = true ↔ p < n ∧ tk p = s ∧ q = p + 1)
def ad_xS (g : ad_G) (tk : Nat → Nat) (n : Nat) (sp : Nat → Int32) : Prop := ∀ r p q, r < 8 → p ≤ n → bt (sp ((16 + r) * 13 + p)) q = true → ad_LR g tk n r p q
def ad_xC (g : ad_G) (tk : Nat → Nat) (n : Nat) (sp : Nat → Int32) (p : Nat) : Prop := ∀ r q, r < 8 → ad_LR g tk n r p q → bt (sp ((16 + r) * 13 + p)) q = true
/-- all places from P on are done -/
def ad_xI (g : ad_G) (tk : Nat → Nat) (n : Nat) (P : Nat) (sp : Nat → Int32) : Prop := ad_xT tk n sp ∧ ad_xS g tk n sp ∧ ∀ p, P ≤ p → p ≤ n → ad_xC g tk n sp p
/-- and at P the rules of rank below j, and of rank j those of the alternatives before a -/
def ad_xJ (g : ad_G) (tk : Nat → Nat) (n : Nat) (rk : Nat → Nat) (P j a : Nat) (sp : Nat → Int32) : Prop :=
  ad_xI g tk n (P + 1) sp ∧ (∀ r q, r < 8 → rk r < j → ad_LR g tk n r P q → bt (sp ((16 + r) * 13 + P)) q = true) ∧
    ∀ b q, b < a → rk (ad_ru g b) ≤ j → ad_ch (ad_E g tk n) (ad_sy g) (ad_st g b) (ad_ln g b) P q → bt (sp ((16 + ad_ru g b) * 13 + P)) q = true
theorem ad_xJ_0 {g : ad_G} {tk : Nat → Nat} {n : Nat} {rk : Nat → Nat} {P : Nat} {sp : Nat → Int32} (h : ad_xI g tk n (P + 1) sp) : ad_xJ g tk n rk P 0 0 sp :=
  ⟨h, fun r q _ z => absurd z (Nat.not_lt_zero _), fun b q z => absurd z (Nat.not_lt_zero b)⟩
theorem ad_xJ_r {g : ad_G} {tk : Nat → Nat} {n : Nat} {rk : Nat → Nat} {P j : Nat} {sp : Nat → Int32} (h : ad_xJ g tk n rk P j (ad_C g) sp) : ad_xJ g tk n rk P (j + 1) 0 sp := by
  refine ⟨h.1, ?_, fun b q z => absurd z (Nat.not_lt_zero b)⟩
  intro r q hr hk hl
  obtain ⟨a, ha, e, hp, hc⟩ := ad_LR_i hl
  subst e
  exact h.2.2 a q ha (by omega) hc
theorem ad_xJ_e {g : ad_G} {tk : Nat → Nat} {n : Nat} {rk : Nat → Nat} (hk : ∀ r, r < 8 → rk r < 8) {P : Nat} {sp : Nat → Int32} (h : ad_xJ g tk n rk P 8 0 sp) : ad_xI g tk n P sp := by
  refine ⟨h.1.1, h.1.2.1, ?_⟩
  intro p hp hn
  by_cases e : p = P
  · subst e
    exact fun r q hr hl => h.2.1 r q hr (hk r hr) hl
  · exact h.1.2.2 p (by omega) hn
theorem ad_LR_8 {g : ad_G} (w : ad_wf g) {tk : Nat → Nat} {n r p q : Nat} (h : ad_LR g tk n r p q) : r < 8 := by
  obtain ⟨a, ha, e, _⟩ := ad_LR_i h
  have := (w.2.2.1 a ha).1
  omega
/-- what an array's columns hold is sound -/
theorem ad_x_E {g : ad_G} {tk : Nat → Nat} {n : Nat} {sp : Nat → Int32} (hT : ad_xT tk n sp) (hS : ad_xS g tk n sp) {s p q : Nat} (hs : s < 24) (h : ad_cE n (ad_cX sp) s p q) : ad_E g tk n s p q := by
  obtain ⟨h1, h2⟩ := h
  by_cases z : s < 16
  · obtain ⟨z1, z2, z3⟩ := (hT s p q z h1).mp h2
    exact Or.inl ⟨z, z1, z2, z3⟩
  · refine Or.inr ⟨by omega, h1, hS (s - 16) p q (by omega) h1 ?_⟩
    have e : 16 + (s - 16) = s := by omega
    rw [e]
    exact h2
theorem ad_xJ_s {g : ad_G} (w : ad_wf g) {tk : Nat → Nat} {n : Nat} (hn : n ≤ 12) {rk : Nat → Nat} (hr : ∀ r q, ad_bw g r q → rk q < rk r) {P j a : Nat} (hP : P ≤ n) (ha : a < ad_C g) {sp : Nat → Int32} (h : ad_xJ g tk n rk P j a sp) :
    ad_xJ g tk n rk P j (a + 1) (upd sp ((16 + ad_ru g a) * 13 + P) (sp ((16 + ad_ru g a) * 13 + P) ||| ad_ae n (ad_cX sp) (ad_sy g) (ad_st g a) (ad_ln g a) ((1 : Int32) <<< (nI P &&& 31)))) := by
  obtain ⟨⟨hT, hS, hC⟩, hR, hA⟩ := h
  have hra := (w.2.2.1 a ha).1
  generalize hv : ad_ae n (ad_cX sp) (ad_sy g) (ad_st g a) (ad_ln g a) ((1 : Int32) <<< (nI P &&& 31)) = v
  have hvb : ∀ q, bt v q = true ↔ ad_ch (ad_cE n (ad_cX sp)) (ad_sy g) (ad_st g a) (ad_ln g a) P q := fun q => by
    rw [← hv]
    exact ad_ae_1 n (ad_cX sp) (ad_sy g) _ _ (by omega) q
  generalize hk : (16 + ad_ru g a) * 13 + P = K
  have hmono : ∀ i q, bt (sp i) q = true → bt (upd sp K (sp K ||| v) i) q = true := by
    intro i q hb
    by_cases e : i = K
    · subst e
      rw [pk_us, ad_orb]
      exact Or.inl hb
    · rw [pk_un e]
      exact hb
  have hvs : ∀ q, bt v q = true → ad_LR g tk n (ad_ru g a) P q := by
    intro q hb
    refine ad_LR_c g tk n a ha P hP q ?_
    have key : ∀ d q, d ≤ ad_ln g a → ad_ch (ad_cE n (ad_cX sp)) (ad_sy g) (ad_st g a) d P q → ad_ch (ad_ts tk n (ad_LR g tk n)) (ad_sy g) (ad_st g a) d P q := by
      intro d
      induction d with
      | zero => exact fun q _ e => e
      | succ d ih =>
        intro q hd ⟨m, h1, h2⟩
        exact ⟨m, ih m (by omega) h1, ad_x_E hT hS (ad_wsy w ha (by omega)) h2⟩
    exact key _ q (Nat.le_refl _) ((hvb q).mp hb)
  refine ⟨⟨?_, ?_, ?_⟩, ?_, ?_⟩
  · intro s p q hs hp
    rw [pk_un (by omega)]
    exact hT s p q hs hp
  · intro r p q hr8 hp hb
    by_cases e : (16 + r) * 13 + p = K
    · rw [e, pk_us, ad_orb] at hb
      rcases hb with hb | hb
      · rw [← e] at hb
        exact hS r p q hr8 hp hb
      · have e1 : r = ad_ru g a := by omega
        have e2 : p = P := by omega
        rw [e1, e2]
        exact hvs q hb
    · rw [pk_un e] at hb
      exact hS r p q hr8 hp hb
  · intro p hp1 hp2 r q hr8 hl
    exact hmono _ _ (hC p hp1 hp2 r q hr8 hl)
  · intro r q hr8 hrk hl
    exact hmono _ _ (hR r q hr8 hrk hl)
  · intro b q hb hrk hc
    by_cases e : b = a
    · subst e
      rw [hk, pk_us, ad_orb]
      refine Or.inr ((hvb q).mpr ?_)
      refine (ad_key (E' := ad_cE n (ad_cX sp)) hr ?_ ?_ ?_ ha hrk _ q (Nat.le_refl _) hc).1
      · intro s p q hs he
        rcases he with z | z
        · exact ⟨by omega, (hT s p q hs (by omega)).mpr z.2⟩
        · exact absurd z.1 (by omega)
      · intro s p q hp he
        have hpn := ad_E_n he
        refine ⟨hpn, ?_⟩
        rcases he with z | z
        · exact (hT s p q z.1 (by omega)).mpr z.2
        · have h8 := ad_LR_8 w z.2.2
          have := hC p (by omega) hpn (s - 16) q h8 z.2.2
          rw [show 16 + (s - 16) = s by omega] at this
          exact this
      · intro s q hs hrk2 he
        have hpn := ad_E_n he
        refine ⟨hpn, ?_⟩
        rcases he with z | z
        · exact absurd z.1 (by omega)
        · have h8 := ad_LR_8 w z.2.2
          have := hR (s - 16) q h8 hrk2 z.2.2
          rw [show 16 + (s - 16) = s by omega] at this
          exact this
    · exact hmono _ _ (hA b q (by omega) hrk hc)
theorem ad_x_ex {g : ad_G} {tk : Nat → Nat} {n : Nat} {sp : Nat → Int32} (h : ad_xI g tk n 0 sp) : ad_ex g tk n (ad_cX sp) := by
  intro s p q hs hp
  constructor
  · intro hb
    exact ad_x_E h.1 h.2.1 hs ⟨hp, hb⟩
  · intro he
    rcases he with z | z
    · exact (h.1 s p q z.1 hp).mpr z.2
    · have := h.2.2 p (by omega) hp (s - 16) q (by omega) z.2.2
      rw [show 16 + (s - 16) = s by omega] at this
      exact this
end
section
/-! ===== how far: bounds ===== -/
theorem ad_chE_le {g : ad_G} {tk : Nat → Nat} {n i d p q : Nat} (hp : p ≤ n) (h : ad_ch (ad_E g tk n) (ad_sy g) i d p q) : p ≤ q ∧ q ≤ n := by
  have := ad_ch_le (g := g) (n := n) (E := ad_E g tk n) (fun s p q hs => ad_E_le hs) _ p q hp h
  exact ⟨this.1, this.2.1⟩
theorem ad_PR_le {g : ad_G} {tk : Nat → Nat} {n r p q : Nat} (h : ad_PR g tk n r p q) : q ≤ n := by
  refine h (fun r p q => q ≤ n) ?_
  intro a ha p hp
  exact ⟨fun k q hk hc => (ad_chE_le hp hc).2, fun k m q _ _ _ hq => hq⟩
/-! ===== the component: begun and reached ===== -/
/-- the relation of alternative a: from p before symbol k, at m -/
def ad_at (g : ad_G) (tk : Nat → Nat) (n : Nat) (a k p m : Nat) : Prop := ad_ch (ad_E g tk n) (ad_sy g) (ad_st g a) k p m
def ad_vS (g : ad_G) (tk : Nat → Nat) (n : Nat) (B : Nat → Int32) : Prop := ∀ r p, r < 8 → bt (B r) p = true → p ≤ n ∧ ∀ q, ad_PR g tk n r p q → ad_PR g tk n 0 0 q
def ad_vR (g : ad_G) (tk : Nat → Nat) (n : Nat) (R : Int32) : Prop := ∀ q, bt R q = true → q = 0 ∨ ad_PR g tk n 0 0 q
def ad_vf (g : ad_G) (tk : Nat → Nat) (n : Nat) (B : Nat → Int32) (R : Int32) (a : Nat) : Prop :=
  (∀ k p m, k < ad_ln g a → bt (B (ad_ru g a)) p = true → ad_at g tk n a k p m → 16 ≤ ad_sy g (ad_st g a + k) → bt (B (ad_sy g (ad_st g a + k) - 16)) m = true) ∧
    (∀ k p q, k ≤ ad_ln g a → bt (B (ad_ru g a)) p = true → ad_at g tk n a k p q → bt R q = true)
def ad_vd (g : ad_G) (tk : Nat → Nat) (n : Nat) (B : Nat → Int32) (R : Int32) : Prop := ∀ a, a < ad_C g → ad_vf g tk n B R a
def ad_mu (B : Nat → Int32) (N : Nat) : Nat := ad_cn (fun t => bt (B (t / 13)) (t % 13)) N
theorem ad_mu_lt {B B' : Nat → Int32} {N : Nat} (R : Nat) (hN : N = R * 13) (hm : ∀ r q, r < R → bt (B r) q = true → bt (B' r) q = true) {r m : Nat} (hr : r < R) (hm13 : m < 13) (h1 : bt (B' r) m = true) (h2 : ¬ bt (B r) m = true) : ad_mu B N < ad_mu B' N := by
  refine ad_cn_lt N ?_ (r * 13 + m) (by omega) ?_ ?_
  · intro i hi hb
    exact hm _ _ (by omega) hb
  · show bt (B' ((r * 13 + m) / 13)) ((r * 13 + m) % 13) = true
    rw [show (r * 13 + m) / 13 = r by omega, show (r * 13 + m) % 13 = m by omega]
    exact h1
  · show ¬ bt (B ((r * 13 + m) / 13)) ((r * 13 + m) % 13) = true
    rw [show (r * 13 + m) / 13 = r by omega, show (r * 13 + m) % 13 = m by omega]
    exact h2
/-- what reading alternative a's first K symbols makes of B, and the places come by -/
def ad_rdB (g : ad_G) (tk : Nat → Nat) (n a K : Nat) (B B' : Nat → Int32) : Prop :=
  ∀ r m, r < 8 → (bt (B' r) m = true ↔ bt (B r) m = true ∨ ∃ k p, k < K ∧ bt (B (ad_ru g a)) p = true ∧ ad_at g tk n a k p m ∧ ad_sy g (ad_st g a + k) = 16 + r)
def ad_rdR (g : ad_G) (tk : Nat → Nat) (n a K : Nat) (B : Nat → Int32) (ret : Int32) : Prop :=
  ∀ q, bt ret q = true ↔ ∃ k p, k ≤ K ∧ bt (B (ad_ru g a)) p = true ∧ ad_at g tk n a k p q
theorem ad_v_step {g : ad_G} (w : ad_wf g) {tk : Nat → Nat} {n : Nat} (hn : n ≤ 12) {B B' : Nat → Int32} {R ret : Int32} {a j : Nat} (ha : a < ad_C g)
    (hS : ad_vS g tk n B) (hR : ad_vR g tk n R) (h0 : bt (B 0) 0 = true)
    (hB : ad_rdB g tk n a (ad_ln g a) B B') (hr : ad_rdR g tk n a (ad_ln g a) B ret)
    (hj : ad_rin (ad_vf g tk n B R) (ad_vd g tk n B R) j (ad_mu B 104) a) :
    ad_vS g tk n B' ∧ ad_vR g tk n (R ||| ret) ∧ bt (B' 0) 0 = true ∧ ad_rin (ad_vf g tk n B' (R ||| ret)) (ad_vd g tk n B' (R ||| ret)) j (ad_mu B' 104) (a + 1) := by
  have hra := (w.2.2.1 a ha).1
  have hS' : ad_vS g tk n B' := by
    intro r m hr8 hb
    rcases (hB r m hr8).mp hb with z | ⟨k, p, hk, hp, hc, es⟩
    · exact hS r m hr8 z
    · obtain ⟨hpn, hq⟩ := hS _ p hra hp
      refine ⟨(ad_chE_le hpn hc).2, fun q hpr => hq q ?_⟩
      refine ((ad_PR_c g tk n) a ha p hpn).2 k m q hk hc (by omega) ?_
      rw [es, Nat.add_sub_cancel_left]
      exact hpr
  have hR' : ad_vR g tk n (R ||| ret) := by
    intro q hb
    rcases (ad_orb _ _ _).mp hb with z | z
    · exact hR q z
    · obtain ⟨k, p, hk, hp, hc⟩ := (hr q).mp z
      obtain ⟨hpn, hq⟩ := hS _ p hra hp
      exact Or.inr (hq q (((ad_PR_c g tk n) a ha p hpn).1 k q hk hc))
  have hmono : ∀ r m, r < 8 → bt (B r) m = true → bt (B' r) m = true := fun r m hr8 hb => (hB r m hr8).mpr (Or.inl hb)
  refine ⟨hS', hR', hmono 0 0 (by omega) h0, ?_⟩
  by_cases hch : ∀ r m, r < 8 → bt (B' r) m = true → bt (B r) m = true
  · have hmu : ad_mu B' 104 = ad_mu B 104 := by
      refine ad_cn_eq 104 fun i hi => ?_
      show bt (B' (i / 13)) (i % 13) = bt (B (i / 13)) (i % 13)
      exact Bool.eq_iff_iff.mpr ⟨hch _ _ (by omega), hmono _ _ (by omega)⟩
    have hfb : ∀ b, b < ad_C g → ad_vf g tk n B R b → ad_vf g tk n B' (R ||| ret) b := by
      intro b hb hf
      have hrb := (w.2.2.1 b hb).1
      refine ⟨fun k p m hk hp hc hs => ?_, fun k p q hk hp hc => ?_⟩
      · have h24 := ad_wsy w hb hk
        exact hmono _ _ (by omega) (hf.1 k p m hk (hch _ _ hrb hp) hc hs)
      · exact (ad_orb _ _ _).mpr (Or.inl (hf.2 k p q hk (hch _ _ hrb hp) hc))
    have hfa : ad_vf g tk n B' (R ||| ret) a := by
      refine ⟨fun k p m hk hp hc hs => ?_, fun k p q hk hp hc => ?_⟩
      · have h24 := ad_wsy w ha hk
        exact (hB _ m (by omega)).mpr (Or.inr ⟨k, p, hk, hch _ _ hra hp, hc, by omega⟩)
      · exact (ad_orb _ _ _).mpr (Or.inr ((hr q).mpr ⟨k, p, hk, hch _ _ hra hp, hc⟩))
    rw [hmu]
    rcases hj with ⟨h1, h2⟩ | h
    · refine Or.inl ⟨fun b hb => ?_, ?_⟩
      · by_cases e : b = a
        · rw [e]; exact hfa
        · exact hfb b (by omega) (h1 b (by omega))
      · rcases h2 with h2 | h2
        · exact Or.inl fun b hb => hfb b hb (h2 b hb)
        · exact Or.inr h2
    · exact Or.inr h
  · have hex : ∃ r m, r < 8 ∧ bt (B' r) m = true ∧ ¬ bt (B r) m = true := Classical.byContradiction fun z => hch fun r m hr8 hb => Classical.byContradiction fun y => z ⟨r, m, hr8, hb, y⟩
    obtain ⟨r, m, hr8, hb1, hb2⟩ := hex
    have hm13 := (hS' r m hr8 hb1).1
    refine ad_rin_g hj ?_ (ad_mu_lt 8 rfl hmono hr8 (by omega) hb1 hb2)
    intro hd
    rcases (hB r m hr8).mp hb1 with z | ⟨k, p, hk, hp, hc, es⟩
    · exact hb2 z
    · have := (hd a ha).1 k p m hk hp hc (by omega)
      rw [es, Nat.add_sub_cancel_left] at this
      exact hb2 this
theorem ad_v_end {g : ad_G} (w : ad_wf g) {tk : Nat → Nat} {n : Nat} {B : Nat → Int32} {R : Int32} (h0 : bt (B 0) 0 = true) (hd : ad_vd g tk n B R) (hR : ad_vR g tk n R) (q : Nat) (hq : 0 < q) : bt R q = true ↔ ad_PR g tk n 0 0 q := by
  constructor
  · intro h
    rcases hR q h with z | z
    · exact absurd hq (by omega)
    · exact z
  · intro h
    refine h (fun r p q => r < 8 → bt (B r) p = true → bt R q = true) ?_ (by omega) h0
    intro a ha p hp
    refine ⟨fun k q hk hc _ hb => (hd a ha).2 k p q hk hb hc, ?_⟩
    intro k m q hk hc hs hS _ hb
    have h24 := ad_wsy w ha hk
    exact hS (by omega) ((hd a ha).1 k p m hk hb hc hs)
/-! ===== the reference's pre ===== -/
/-- the bits of altPre -/
def ad_ap (g : ad_G) (tk : Nat → Nat) (n : Nat) (pr : Nat → Int32) (a p q : Nat) : Prop :=
  (∃ k, k ≤ ad_ln g a ∧ ad_at g tk n a k p q) ∨ (∃ k m, k < ad_ln g a ∧ ad_at g tk n a k p m ∧ 16 ≤ ad_sy g (ad_st g a + k) ∧ bt (pr ((ad_sy g (ad_st g a + k) - 16) * 13 + m)) q = true)
def ad_ps (g : ad_G) (tk : Nat → Nat) (n : Nat) (pr : Nat → Int32) : Prop := ∀ r p q, r < 8 → p ≤ n → bt (pr (r * 13 + p)) q = true → ad_PR g tk n r p q
def ad_pc (g : ad_G) (tk : Nat → Nat) (n : Nat) (pr : Nat → Int32) (r p : Nat) : Prop := ∀ a q, a < ad_C g → ad_ru g a = r → ad_ap g tk n pr a p q → bt (pr (r * 13 + p)) q = true
theorem ad_p_ap {g : ad_G} (w : ad_wf g) {tk : Nat → Nat} {n : Nat} {pr : Nat → Int32} (hs : ad_ps g tk n pr) {a p q : Nat} (ha : a < ad_C g) (hp : p ≤ n) (h : ad_ap g tk n pr a p q) : ad_PR g tk n (ad_ru g a) p q := by
  rcases h with ⟨k, hk, hc⟩ | ⟨k, m, hk, hc, h16, hb⟩
  · exact ((ad_PR_c g tk n) a ha p hp).1 k q hk hc
  · have h24 := ad_wsy w ha hk
    exact ((ad_PR_c g tk n) a ha p hp).2 k m q hk hc h16 (hs _ m q (by omega) (ad_chE_le hp hc).2 hb)
theorem ad_p_end {g : ad_G} (w : ad_wf g) {tk : Nat → Nat} {n : Nat} {pr : Nat → Int32} (hs : ad_ps g tk n pr) (hc : ∀ r p, r < 8 → p ≤ n → ad_pc g tk n pr r p) (q : Nat) : bt (pr 0) q = true ↔ ad_PR g tk n 0 0 q := by
  constructor
  · intro h
    exact hs 0 0 q (by omega) (by omega) h
  · intro h
    have := h (fun r p q => p ≤ n → bt (pr (r * 13 + p)) q = true) ?_ (by omega)
    · exact this
    · intro a ha p hp
      have h8 := (w.2.2.1 a ha).1
      refine ⟨fun k q hk hch hp => hc _ p h8 hp a q ha rfl (Or.inl ⟨k, hk, hch⟩), ?_⟩
      intro k m q hk hch h16 hS hp
      exact hc _ p h8 hp a q ha rfl (Or.inr ⟨k, m, hk, hch, h16, hS (ad_chE_le hp hch).2⟩)
/-- the union of f a over the alternatives below k of rule r -/
def ad_ro (ru : Nat → Nat) (r : Nat) (f : Nat → Int32) : Nat → Int32
  | 0 => 0
  | a + 1 => if ru a = r then ad_ro ru r f a ||| f a else ad_ro ru r f a
theorem ad_ro_b (ru : Nat → Nat) (r : Nat) (f : Nat → Int32) (q : Nat) : ∀ k, bt (ad_ro ru r f k) q = true ↔ ∃ a, a < k ∧ ru a = r ∧ bt (f a) q = true := by
  intro k
  induction k with
  | zero =>
    show bt 0 q = true ↔ _
    rw [b_0]
    exact ⟨fun z => (nomatch z), fun ⟨p, hp, _⟩ => absurd hp (Nat.not_lt_zero p)⟩
  | succ k ih =>
    show bt (if ru k = r then ad_ro ru r f k ||| f k else ad_ro ru r f k) q = true ↔ _
    by_cases hb : ru k = r
    · rw [if_pos hb, ad_orb, ih]
      constructor
      · intro h
        rcases h with ⟨p, h1, h2⟩ | h
        · exact ⟨p, by omega, h2⟩
        · exact ⟨k, by omega, hb, h⟩
      · intro ⟨p, h1, h2, h3⟩
        by_cases e : p = k
        · subst e; exact Or.inr h3
        · exact Or.inl ⟨p, by omega, h2, h3⟩
    · rw [if_neg hb, ih]
      constructor
      · intro ⟨p, h1, h2⟩
        exact ⟨p, by omega, h2⟩
      · intro ⟨p, h1, h2, h3⟩
        by_cases e : p = k
        · subst e; exact absurd h2 hb
        · exact ⟨p, by omega, h2, h3⟩
end
section
/-! ===== the reference's sweeps over 104 cells ===== -/
def ad_wS (n : Nat) (Snd : Nat → Nat → Prop) (en : Nat → Int32) : Prop := ∀ t q, t < 104 → t % 13 ≤ n → bt (en t) q = true → Snd t q
def ad_wf1 (n : Nat) (F : (Nat → Int32) → Nat → Nat → Prop) (en : Nat → Int32) (t : Nat) : Prop := t % 13 ≤ n → ∀ q, F en t q → bt (en t) q = true
def ad_sw (n : Nat) (F : (Nat → Int32) → Nat → Nat → Prop) (Snd : Nat → Nat → Prop) (j : Nat) (ch : Int32) (i : Nat) (en : Nat → Int32) : Prop :=
  ad_wS n Snd en ∧ ((ch = 0 ∧ (∀ t, t < i → ad_wf1 n F en t) ∧ j ≤ ad_mu en 1352) ∨ (ch = 1 ∧ j + 1 ≤ ad_mu en 1352))
theorem ad_sw_skip {n : Nat} {F : (Nat → Int32) → Nat → Nat → Prop} {Snd : Nat → Nat → Prop} {j i : Nat} {ch : Int32} {en : Nat → Int32} (h : ad_sw n F Snd j ch i en) (hf : ad_wf1 n F en i) : ad_sw n F Snd j ch (i + 1) en := by
  refine ⟨h.1, h.2.elim (fun z => Or.inl ⟨z.1, fun t ht => ?_, z.2.2⟩) Or.inr⟩
  by_cases e : t = i
  · rw [e]; exact hf
  · exact z.2.1 t (by omega)
theorem ad_sw_same {n : Nat} {F : (Nat → Int32) → Nat → Nat → Prop} {Snd : Nat → Nat → Prop} {j i : Nat} {ch : Int32} {en : Nat → Int32} {v : Int32} (h : ad_sw n F Snd j ch i en) (hv : ∀ q, F en i q → bt v q = true) (e : (v ||| en i) = en i) : ad_sw n F Snd j ch (i + 1) en := by
  refine ad_sw_skip h fun _ q hq => ?_
  rw [← e, ad_orb]
  exact Or.inl (hv q hq)
theorem ad_sw_new {n : Nat} {F : (Nat → Int32) → Nat → Nat → Prop} {Snd : Nat → Nat → Prop} {j i : Nat} {ch : Int32} {en : Nat → Int32} {v : Int32} (hq : ∀ t q, Snd t q → q ≤ 12) (h : ad_sw n F Snd j ch i en) (hi : i < 104) (hv : ∀ q, bt v q = true → Snd i q) (hin : i % 13 ≤ n) (e : ¬ (v ||| en i) = en i) : ad_sw n F Snd j 1 (i + 1) (upd en i (v ||| en i)) := by
  have hex : ∃ q, bt v q = true ∧ ¬ bt (en i) q = true := Classical.byContradiction fun z => e (ad_bext fun q => by
    rw [ad_orb]
    exact ⟨fun y => y.elim (fun x => Classical.byContradiction fun u => z ⟨q, x, u⟩) id, Or.inr⟩)
  obtain ⟨q, h1, h2⟩ := hex
  have hmu : ad_mu en 1352 < ad_mu (upd en i (v ||| en i)) 1352 := by
    refine ad_mu_lt 104 rfl ?_ hi (m := q) (by have := hq i q (hv q h1); omega) ?_ h2
    · intro r q hr hb
      by_cases e : r = i
      · subst e; rw [pk_us, ad_orb]; exact Or.inr hb
      · rw [pk_un e]; exact hb
    · rw [pk_us, ad_orb]; exact Or.inl h1
  refine ⟨?_, Or.inr ⟨rfl, ?_⟩⟩
  · intro t q ht htn hb
    by_cases e : t = i
    · subst e
      rw [pk_us, ad_orb] at hb
      rcases hb with hb | hb
      · exact hv q hb
      · exact h.1 t q ht htn hb
    · rw [pk_un e] at hb
      exact h.1 t q ht htn hb
  · rcases h.2 with z | z
    · have := z.2.2; omega
    · have := z.2; omega
theorem ad_mu_le (B : Nat → Int32) (N : Nat) : ad_mu B N ≤ N := ad_cn_le _ N
/-! ===== frames: what is still to be read ===== -/
def ad_Gs (g : ad_G) (E : Nat → Nat → Nat → Prop) (n : Nat) (sa sn : Nat → Nat) : Nat → Nat → Prop
  | 0, q => q = n
  | f + 1, q => ∃ q', ad_ch E (ad_sy g) (ad_st g (sa f) + sn f) (ad_ln g (sa f) - sn f) q q' ∧ ad_Gs g E n sa sn f q'
def ad_cm (g : ad_G) (n : Nat) (col : Nat → Nat → Int32) (sa sn : Nat → Nat) : Nat → Int32 → Int32
  | 0, m => m
  | f + 1, m => ad_cm g n col sa sn f (ad_ae n col (ad_sy g) (ad_st g (sa f) + sn f) (ad_ln g (sa f) - sn f) m)
theorem ad_cm_b (g : ad_G) (n : Nat) (col : Nat → Nat → Int32) (sa sn : Nat → Nat) : ∀ f m, bt (ad_cm g n col sa sn f m) n = true ↔ ∃ q, bt m q = true ∧ ad_Gs g (ad_cE n col) n sa sn f q := by
  intro f
  induction f with
  | zero =>
    intro m
    exact ⟨fun h => ⟨n, h, rfl⟩, fun ⟨q, h1, h2⟩ => by have e : q = n := h2; subst e; exact h1⟩
  | succ f ih =>
    intro m
    show bt (ad_cm g n col sa sn f (ad_ae n col (ad_sy g) (ad_st g (sa f) + sn f) (ad_ln g (sa f) - sn f) m)) n = true ↔ _
    rw [ih]
    constructor
    · intro ⟨q', h1, h2⟩
      obtain ⟨q, h3, h4⟩ := (ad_ae_b _ _ _ _ _ _ _).mp h1
      exact ⟨q, h3, q', h4, h2⟩
    · intro ⟨q, h3, q', h4, h2⟩
      exact ⟨q', (ad_ae_b _ _ _ _ _ _ _).mpr ⟨q, h3, h4⟩, h2⟩
theorem ad_Gs_eq {g : ad_G} {E : Nat → Nat → Nat → Prop} {n : Nat} {sa sn sa' sn' : Nat → Nat} : ∀ f q, (∀ i, i < f → sa i = sa' i ∧ sn i = sn' i) → (ad_Gs g E n sa sn f q ↔ ad_Gs g E n sa' sn' f q) := by
  intro f
  induction f with
  | zero => exact fun q _ => Iff.rfl
  | succ f ih =>
    intro q h
    obtain ⟨e1, e2⟩ := h f (by omega)
    show (∃ q', ad_ch E (ad_sy g) (ad_st g (sa f) + sn f) (ad_ln g (sa f) - sn f) q q' ∧ ad_Gs g E n sa sn f q') ↔ (∃ q', ad_ch E (ad_sy g) (ad_st g (sa' f) + sn' f) (ad_ln g (sa' f) - sn' f) q q' ∧ ad_Gs g E n sa' sn' f q')
    rw [e1, e2]
    constructor
    · intro ⟨q', h1, h2⟩
      exact ⟨q', h1, (ih q' (fun i hi => h i (by omega))).mp h2⟩
    · intro ⟨q', h1, h2⟩
      exact ⟨q', h1, (ih q' (fun i hi => h i (by omega))).mpr h2⟩
theorem ad_Gs_iff {g : ad_G} (w : ad_wf g) {tk : Nat → Nat} {n : Nat} {c : Nat → Nat → Int32} (h : ad_ex g tk n c) {sa sn : Nat → Nat} : ∀ f q, (∀ i, i < f → sa i < ad_C g ∧ sn i ≤ ad_ln g (sa i)) → (ad_Gs g (ad_cE n c) n sa sn f q ↔ ad_Gs g (ad_E g tk n) n sa sn f q) := by
  intro f
  induction f with
  | zero => exact fun q _ => Iff.rfl
  | succ f ih =>
    intro q hs
    obtain ⟨e1, e2⟩ := hs f (by omega)
    constructor
    · intro ⟨q', h1, h2⟩
      exact ⟨q', (ad_ex_ch w h e1 (by omega) (by omega) _ _).mp h1, (ih q' (fun i hi => hs i (by omega))).mp h2⟩
    · intro ⟨q', h1, h2⟩
      exact ⟨q', (ad_ex_ch w h e1 (by omega) (by omega) _ _).mpr h1, (ih q' (fun i hi => hs i (by omega))).mpr h2⟩
/-- set one place of a function -/
def ad_set (f : Nat → Nat) (k x : Nat) : Nat → Nat := fun j => if j = k then x else f j
theorem ad_set_s {f : Nat → Nat} {k x : Nat} : ad_set f k x k = x := if_pos rfl
theorem ad_set_n {f : Nat → Nat} {k j x : Nat} (h : j ≠ k) : ad_set f k x j = f j := if_neg h
/-- the top frame has read its next symbol -/
theorem ad_Gs_next {g : ad_G} {E : Nat → Nat → Nat → Prop} {n : Nat} {sa sn : Nat → Nat} {f q : Nat} (hl : sn f < ad_ln g (sa f)) (h : ad_Gs g E n sa sn (f + 1) q) : ∃ m, E (ad_sy g (ad_st g (sa f) + sn f)) q m ∧ ad_Gs g E n sa (ad_set sn f (sn f + 1)) (f + 1) m := by
  obtain ⟨q', h1, h2⟩ := h
  have e : ad_ln g (sa f) - sn f = (ad_ln g (sa f) - (sn f + 1)) + 1 := by omega
  rw [e, ad_ch_cons] at h1
  obtain ⟨m, h3, h4⟩ := h1
  refine ⟨m, h3, q', ?_, ?_⟩
  · rw [ad_set_s]; exact h4
  · refine (ad_Gs_eq f q' fun i hi => ⟨rfl, ?_⟩).mp h2
    rw [ad_set_n (by omega)]
/-- a new frame on top -/
theorem ad_Gs_push {g : ad_G} {E : Nat → Nat → Nat → Prop} {n : Nat} {sa sn : Nat → Nat} {f p q b : Nat} (hc : ad_ch E (ad_sy g) (ad_st g b) (ad_ln g b) p q) (h : ad_Gs g E n sa sn f q) : ad_Gs g E n (ad_set sa f b) (ad_set sn f 0) (f + 1) p := by
  refine ⟨q, ?_, ?_⟩
  · rw [ad_set_s, ad_set_s]; exact hc
  · refine (ad_Gs_eq f q fun i hi => ⟨?_, ?_⟩).mp h
    · rw [ad_set_n (by omega)]
    · rw [ad_set_n (by omega)]
end
section
/-! ===== least sets of rules by rounds ===== -/
def ad_mf (g : ad_G) (T : Bool) (S : Nat → Bool) (a : Nat) : Prop := ad_ok g T (fun r => S r = true) a → S (ad_ru g a) = true
def ad_md (g : ad_G) (T : Bool) (S : Nat → Bool) : Prop := ∀ a, a < ad_C g → ad_mf g T S a
def ad_mS (g : ad_G) (T : Bool) (S : Nat → Bool) : Prop := ∀ r, S r = true → ad_LS g T r
def ad_mI (g : ad_G) (T : Bool) (j a : Nat) (S : Nat → Bool) : Prop := ad_mS g T S ∧ ad_rin (ad_mf g T S) (ad_md g T S) j (ad_cn S 8) a
theorem ad_m_skip {g : ad_G} {T : Bool} {j a : Nat} {S : Nat → Bool} (h : ad_mI g T j a S) (hf : ad_mf g T S a) : ad_mI g T j (a + 1) S := ⟨h.1, ad_rin_s h.2 hf⟩
theorem ad_m_step {g : ad_G} (w : ad_wf g) {T : Bool} {j a : Nat} {S S' : Nat → Bool} (ha : a < ad_C g) (h : ad_mI g T j a S) (ho : ad_ok g T (fun r => S r = true) a) (hS' : ∀ r, S' r = true ↔ S r = true ∨ r = ad_ru g a) : ad_mI g T j (a + 1) S' := by
  by_cases z : S (ad_ru g a) = true
  · have e : S' = S := funext fun r => Bool.eq_iff_iff.mpr ((hS' r).trans ⟨fun y => y.elim id (fun x => by rw [x]; exact z), Or.inl⟩)
    rw [e]
    exact ad_m_skip h (fun _ => z)
  · refine ⟨?_, ad_rin_g h.2 (fun hd => z (hd a ha ho)) ?_⟩
    · intro r hr
      rcases (hS' r).mp hr with y | y
      · exact h.1 r y
      · rw [y]
        exact ad_LS_c g T a ha (ad_ok_mono (fun r hr => h.1 r hr) ho)
    · exact ad_cn_lt 8 (fun i _ hp => (hS' i).mpr (Or.inl hp)) (ad_ru g a) (w.2.2.1 a ha).1 ((hS' _).mpr (Or.inr rfl)) z
theorem ad_m_round {g : ad_G} {T : Bool} {j : Nat} {S : Nat → Bool} (h : ad_mI g T j (ad_C g) S) : ad_mI g T (j + 1) 0 S := ⟨h.1, ad_rin_0 (ad_rin_e (fun z => z) h.2)⟩
theorem ad_m_0 {g : ad_G} {T : Bool} {S : Nat → Bool} (h : ∀ r, ¬ S r = true) : ad_mI g T 0 0 S := ⟨fun r hr => absurd hr (h r), ad_rin_0 (Or.inr (by omega))⟩
theorem ad_m_end {g : ad_G} (w : ad_wf g) {T : Bool} {j : Nat} (hj : 8 ≤ j) {S : Nat → Bool} (h : ad_mI g T j 0 S) (r : Nat) : S r = true ↔ ad_LS g T r := by
  refine ⟨h.1 r, fun hl => hl (fun r => S r = true) ?_⟩
  intro a ha ho
  have hd : ad_md g T S ∨ 8 ≤ ad_cn S 8 := by
    rcases h.2 with ⟨_, z | z⟩ | z
    · exact Or.inl z
    · exact Or.inr (by omega)
    · exact Or.inr (by omega)
  rcases hd with z | z
  · exact z a ha ho
  · exact ad_cn_full 8 z _ (w.2.2.1 a ha).1
/-! ===== the defined rules ===== -/
def ad_df (g : ad_G) (r : Nat) : Prop := ∃ a, a < ad_C g ∧ ad_ru g a = r
theorem ad_LS_df {g : ad_G} {T : Bool} {r : Nat} (h : ad_LS g T r) : ad_df g r := h (ad_df g) fun a ha _ => ⟨a, ha, rfl⟩
theorem ad_df_8 {g : ad_G} (w : ad_wf g) {r : Nat} (h : ad_df g r) : r < 8 := by
  obtain ⟨a, ha, e⟩ := h
  have := (w.2.2.1 a ha).1
  omega
/-! ===== Warshall ===== -/
def ad_ws (f : Nat → Int32) (m i : Nat) : Nat → Int32 := fun r => if r < i ∧ bt (f r) m = true then f r ||| f m else f r
theorem ad_or_self (x : Int32) : (x ||| x) = x := ad_bext fun i => by
  rw [ad_orb]
  exact ⟨fun z => z.elim id id, Or.inl⟩
theorem ad_ws_m (f : Nat → Int32) (m i : Nat) : ad_ws f m i m = f m := by
  show (if m < i ∧ bt (f m) m = true then f m ||| f m else f m) = f m
  rw [ad_or_self]
  split <;> rfl
theorem ad_ws_0 (f : Nat → Int32) (m : Nat) : ad_ws f m 0 = f := funext fun r => if_neg (by omega)
theorem ad_ws_i (f : Nat → Int32) (m i : Nat) : ad_ws f m i i = f i := if_neg (by omega)
theorem ad_ws_t {f : Nat → Int32} {m i : Nat} (h : bt (f i) m = true) : upd (ad_ws f m i) i (f i ||| f m) = ad_ws f m (i + 1) := by
  funext r
  by_cases e : r = i
  · subst e
    rw [pk_us]
    exact (if_pos ⟨by omega, h⟩).symm
  · rw [pk_un e]
    show (if r < i ∧ bt (f r) m = true then f r ||| f m else f r) = (if r < i + 1 ∧ bt (f r) m = true then f r ||| f m else f r)
    have : (r < i ∧ bt (f r) m = true) ↔ (r < i + 1 ∧ bt (f r) m = true) := ⟨fun z => ⟨by omega, z.2⟩, fun z => ⟨by omega, z.2⟩⟩
    simp only [this]
theorem ad_ws_f {f : Nat → Int32} {m i : Nat} (h : ¬ bt (f i) m = true) : ad_ws f m i = ad_ws f m (i + 1) := by
  funext r
  show (if r < i ∧ bt (f r) m = true then f r ||| f m else f r) = (if r < i + 1 ∧ bt (f r) m = true then f r ||| f m else f r)
  by_cases e : r = i
  · subst e
    rw [if_neg (fun z => h z.2), if_neg (fun z => h z.2)]
  · have : (r < i ∧ bt (f r) m = true) ↔ (r < i + 1 ∧ bt (f r) m = true) := ⟨fun z => ⟨by omega, z.2⟩, fun z => ⟨by omega, z.2⟩⟩
    simp only [this]
theorem ad_ws_b {f : Nat → Int32} {m r q : Nat} (hr : r < 8) : bt (ad_ws f m 8 r) q = true ↔ bt (f r) q = true ∨ (bt (f r) m = true ∧ bt (f m) q = true) := by
  show bt (if r < 8 ∧ bt (f r) m = true then f r ||| f m else f r) q = true ↔ _
  by_cases h : bt (f r) m = true
  · rw [if_pos ⟨hr, h⟩, ad_orb]
    exact ⟨fun z => z.imp id (fun y => ⟨h, y⟩), fun z => z.imp id (fun y => y.2)⟩
  · rw [if_neg (fun z => h z.2)]
    exact ⟨Or.inl, fun z => z.elim id (fun y => absurd y.1 h)⟩
def ad_wI (g : ad_G) (m : Nat) (f : Nat → Int32) : Prop :=
  (∀ r q, ad_bw g r q → bt (f r) q = true) ∧ (∀ r q, r < 8 → bt (f r) q = true → ad_TC (ad_bw g) r q) ∧
    ∀ k r q, k < m → r < 8 → bt (f r) k = true → bt (f k) q = true → bt (f r) q = true
theorem ad_wI_s {g : ad_G} (w : ad_wf g) {m : Nat} (hm : m < 8) {f : Nat → Int32} (h : ad_wI g m f) : ad_wI g (m + 1) (ad_ws f m 8) := by
  obtain ⟨h1, h2, h3⟩ := h
  refine ⟨?_, ?_, ?_⟩
  · intro r q hb
    exact (ad_ws_b (ad_bw_lt w hb).1).mpr (Or.inl (h1 r q hb))
  · intro r q hr hb
    rcases (ad_ws_b hr).mp hb with z | z
    · exact h2 r q hr z
    · exact ad_TC_t (h2 r m hr z.1) (h2 m q hm z.2)
  · intro k r q hk hr ha hb
    have ha := (ad_ws_b hr).mp ha
    have hb := (ad_ws_b (f := f) (m := m) (q := q) (show k < 8 by omega)).mp hb
    refine (ad_ws_b hr).mpr ?_
    by_cases e : k = m
    · subst e
      have a1 : bt (f r) k = true := ha.elim id (fun z => z.1)
      have b1 : bt (f k) q = true := hb.elim id (fun z => z.2)
      exact Or.inr ⟨a1, b1⟩
    · have hk : k < m := by omega
      rcases ha with a1 | ⟨a1, a2⟩
      · rcases hb with b1 | ⟨b1, b2⟩
        · exact Or.inl (h3 k r q hk hr a1 b1)
        · exact Or.inr ⟨h3 k r m hk hr a1 b1, b2⟩
      · rcases hb with b1 | ⟨b1, b2⟩
        · exact Or.inr ⟨a1, h3 k m q hk hm a2 b1⟩
        · exact Or.inr ⟨a1, b2⟩
theorem ad_wI_e {g : ad_G} (w : ad_wf g) {f : Nat → Int32} (h : ad_wI g 8 f) {r q : Nat} (hr : r < 8) : bt (f r) q = true ↔ ad_TC (ad_bw g) r q := by
  refine ⟨h.2.1 r q hr, fun ht => ?_⟩
  refine ht (fun x y => x < 8 → bt (f x) y = true) (fun x y hb _ => h.1 x y hb) ?_ hr
  intro x y z hx hb h8
  exact h.2.2 y x z (ad_bw_lt w hb).1 h8 (hx h8) (h.1 y z hb)
def ad_lrec (g : ad_G) : Prop := ∃ r, r < 8 ∧ ad_TC (ad_bw g) r r
theorem ad_wI_rk {g : ad_G} (w : ad_wf g) {f : Nat → Int32} (h : ad_wI g 8 f) (hn : ¬ ad_lrec g) : ad_RK g :=
  ad_rank w (fun r q => bt (f r) q) h.1 (fun r k q hr hk _ h1 h2 => h.2.2 k r q hk hr h1 h2) (fun r hr hb => hn ⟨r, hr, h.2.1 r r hr hb⟩)
/-! ===== the reference's closure by rounds, row by row ===== -/
def ad_row (re : Nat → Int32) (r : Nat) : Nat → Bool := fun q => decide (q < 8 ∧ ¬ re (r * 8 + q) = 0)
def ad_qf (g : ad_G) (S : Nat → Bool) (q : Nat) : Prop := (∃ k, k < 8 ∧ S k = true ∧ ad_bw g k q) → S q = true
def ad_qd (g : ad_G) (S : Nat → Bool) : Prop := ∀ q, q < 8 → ad_qf g S q
def ad_pz (i r : Nat) : Nat := if i ≤ r * 8 then 0 else if r * 8 + 8 ≤ i then 8 else i - r * 8
def ad_qI (g : ad_G) (j i : Nat) (re : Nat → Int32) : Prop :=
  ∀ r, r < 8 → (∀ q, ad_bw g r q → ad_row re r q = true) ∧ (∀ q, ad_row re r q = true → ad_TC (ad_bw g) r q) ∧
    ad_rin (ad_qf g (ad_row re r)) (ad_qd g (ad_row re r)) j (ad_cn (ad_row re r) 8) (ad_pz i r)
theorem ad_pz_n {i r q r' : Nat} (hi : i = r * 8 + q) (hq : q < 8) (h : r' ≠ r) : ad_pz (i + 1) r' = ad_pz i r' := by
  unfold ad_pz
  split <;> split <;> (try split) <;> (try split) <;> omega
theorem ad_pz_s {i r q : Nat} (hi : i = r * 8 + q) (hq : q < 8) : ad_pz i r = q ∧ ad_pz (i + 1) r = q + 1 := by
  unfold ad_pz
  constructor
  · split <;> (try split) <;> omega
  · split <;> (try split) <;> omega
theorem ad_q_skip {g : ad_G} {j i r q : Nat} (hi : i = r * 8 + q) (hq : q < 8) {re : Nat → Int32} (h : ad_qI g j i re) (hf : r < 8 → ad_qf g (ad_row re r) q) : ad_qI g j (i + 1) re := by
  intro r' hr'
  obtain ⟨h1, h2, h3⟩ := h r' hr'
  refine ⟨h1, h2, ?_⟩
  by_cases e : r' = r
  · subst e
    rw [(ad_pz_s hi hq).1] at h3
    rw [(ad_pz_s hi hq).2]
    exact ad_rin_s h3 (hf hr')
  · rw [ad_pz_n hi hq e]
    exact h3
theorem ad_q_step {g : ad_G} {j i r q : Nat} (hi : i = r * 8 + q) (hr : r < 8) (hq : q < 8) {re : Nat → Int32} (h : ad_qI g j i re) (h0 : re i = 0) {k : Nat} (hk : k < 8) (hb : ad_row re r k = true) (hw : ad_bw g k q) : ad_qI g j (i + 1) (upd re i 1) := by
  intro r' hr'
  obtain ⟨h1, h2, h3⟩ := h r' hr'
  by_cases e : r' = r
  · subst e
    have hrow : ∀ x, ad_row (upd re i 1) r' x = true ↔ ad_row re r' x = true ∨ x = q := by
      intro x
      unfold ad_row
      rw [decide_eq_true_iff, decide_eq_true_iff]
      by_cases ex : x = q
      · subst ex
        rw [← hi, pk_us]
        exact ⟨fun _ => Or.inr rfl, fun _ => ⟨hq, by decide⟩⟩
      · rw [pk_un (show r' * 8 + x ≠ i by omega)]
        exact ⟨Or.inl, fun z => z.elim id (fun y => absurd y ex)⟩
    have hnq : ¬ ad_row re r' q = true := by
      unfold ad_row
      rw [decide_eq_true_iff, ← hi]
      exact fun z => z.2 h0
    refine ⟨fun x hx => (hrow x).mpr (Or.inl (h1 x hx)), fun x hx => ?_, ?_⟩
    · rcases (hrow x).mp hx with z | z
      · exact h2 x z
      · rw [z]
        exact ad_TC_s (h2 k hb) hw
    · rw [(ad_pz_s hi hq).1] at h3
      rw [(ad_pz_s hi hq).2]
      refine ad_rin_g h3 (fun hd => hnq (hd q hq ⟨k, hk, hb, hw⟩)) ?_
      exact ad_cn_lt 8 (fun x _ hx => (hrow x).mpr (Or.inl hx)) q hq ((hrow q).mpr (Or.inr rfl)) hnq
  · have hrow : ad_row (upd re i 1) r' = ad_row re r' := by
      funext x
      unfold ad_row
      by_cases hx : x < 8
      · rw [pk_un (show r' * 8 + x ≠ i by omega)]
      · rw [decide_eq_false (fun z => hx z.1), decide_eq_false (fun z => hx z.1)]
    rw [hrow, ad_pz_n hi hq e]
    exact ⟨h1, h2, h3⟩
theorem ad_q_round {g : ad_G} {j : Nat} {re : Nat → Int32} (h : ad_qI g j 64 re) : ad_qI g (j + 1) 0 re := by
  intro r hr
  obtain ⟨h1, h2, h3⟩ := h r hr
  refine ⟨h1, h2, ?_⟩
  have e1 : ad_pz 64 r = 8 := by unfold ad_pz; rw [if_neg (by omega), if_pos (by omega)]
  have e2 : ad_pz 0 r = 0 := by unfold ad_pz; rw [if_pos (by omega)]
  rw [e1] at h3
  rw [e2]
  exact ad_rin_0 (ad_rin_e (fun z => z) h3)
theorem ad_q_0 {g : ad_G} {re : Nat → Int32} (h : ∀ r q, r < 8 → (ad_row re r q = true ↔ ad_bw g r q)) : ad_qI g 0 0 re := by
  intro r hr
  refine ⟨fun q hq => (h r q hr).mpr hq, fun q hq => ad_TC_1 ((h r q hr).mp hq), ?_⟩
  have e2 : ad_pz 0 r = 0 := by unfold ad_pz; rw [if_pos (by omega)]
  rw [e2]
  exact ad_rin_0 (Or.inr (by omega))
theorem ad_q_end {g : ad_G} (w : ad_wf g) {re : Nat → Int32} (h : ad_qI g 8 0 re) {r q : Nat} (hr : r < 8) : ad_row re r q = true ↔ ad_TC (ad_bw g) r q := by
  obtain ⟨h1, h2, h3⟩ := h r hr
  refine ⟨h2 q, fun ht => ?_⟩
  have hd : ad_qd g (ad_row re r) := by
    have hd : ad_qd g (ad_row re r) ∨ 8 ≤ ad_cn (ad_row re r) 8 := by
      rcases h3 with ⟨_, z | z⟩ | z
      · exact Or.inl z
      · exact Or.inr (by omega)
      · exact Or.inr (by omega)
    rcases hd with z | z
    · exact z
    · exact fun q hq _ => ad_cn_full 8 z q hq
  have key : r = r → ad_row re r q = true := by
    refine ht (fun x y => x = r → ad_row re r y = true) (fun x y hb e => by rw [e] at hb; exact h1 y hb) ?_
    intro x y z hx hb e
    have hl := ad_bw_lt w hb
    exact hd z hl.2 ⟨y, hl.1, hx e, hb⟩
  exact key rfl
end
section
/-! ===== growing the tree: what both sides hold ===== -/
theorem ad_uu {f : Nat → Int32} {k : Nat} {x y : Int32} : upd (upd f k x) k y = upd f k y := by
  funext j
  by_cases e : j = k
  · subst e; rw [pk_us, pk_us]
  · rw [pk_un e, pk_un e, pk_un e]
theorem ad_uid {f : Nat → Int32} {k : Nat} : upd f k (f k) = f := by
  funext j
  by_cases e : j = k
  · subst e; rw [pk_us]
  · rw [pk_un e]
def ad_TF (g : ad_G) (tk : Nat → Nat) (n c d : Nat) (nd sa sn : Nat → Nat) (nx sto go par yN yA yX : Nat → Int32) : Prop :=
  ∀ f, f < d → nd f < c ∧ sa f < ad_C g ∧ sn f ≤ ad_ln g (sa f) ∧ yN f = nI (nd f) ∧ yA f = nI (sa f) ∧ yX f = nI (sn f) ∧ nx (nd f) = nI (ad_st g (sa f) + sn f) ∧ sto (nd f) = nI (ad_st g (sa f) + ad_ln g (sa f)) ∧
    par (nd f) = (if f = 0 then -1 else nI (nd (f - 1))) ∧ (∀ q, bt (go (nd f)) q = true ↔ ad_Gs g (ad_E g tk n) n sa sn f q) ∧ (∀ f', f' < f → nd f' < nd f)
def ad_TI (g : ad_G) (tk : Nat → Nat) (n lim c d pos step : Nat) (nd sa sn : Nat → Nat) (nx sto go par alt amb en yN yA yX yE : Nat → Int32) : Prop :=
  1 ≤ c ∧ c ≤ lim ∧ lim ≤ 64 ∧ d ≤ c ∧ step + d + 1 ≤ 2 * c ∧ pos ≤ n ∧ ad_Gs g (ad_E g tk n) n sa sn d pos ∧ ad_TF g tk n c d nd sa sn nx sto go par yN yA yX ∧
    (∀ i, i < c → (∀ f, f < d → nd f ≠ i) → en i = yE i) ∧ (∀ i, amb i = 0 ∨ (amb i = 1 ∧ 0 < alt i))
section
variable {g : ad_G} {tk : Nat → Nat} {n lim c pos step : Nat} {nd sa sn : Nat → Nat} {nx sto go par alt amb en yN yA yX yE : Nat → Int32}
theorem ad_TI_close {f : Nat} (h : ad_TI g tk n lim c (f + 1) pos step nd sa sn nx sto go par alt amb en yN yA yX yE) (hf : sn f = ad_ln g (sa f)) :
    ad_TI g tk n lim c f pos (step + 1) nd sa sn nx sto go par alt amb (upd en (nd f) (nI pos)) yN yA yX (upd yE (nd f) (nI pos)) := by
  obtain ⟨h1, h2, h3, h4, h5, h6, h7, h8, h9, h10⟩ := h
  refine ⟨h1, h2, h3, by omega, by omega, h6, ?_, fun f' hf' => h8 f' (by omega), ?_, h10⟩
  · obtain ⟨q', a1, a2⟩ := h7
    rw [hf, Nat.sub_self] at a1
    have e : pos = q' := a1
    rw [e]
    exact a2
  · intro i hi hn
    by_cases e : i = nd f
    · rw [e, pk_us, pk_us]
    · rw [pk_un e, pk_un e]
      refine h9 i hi fun f' hf' => ?_
      by_cases e2 : f' = f
      · rw [e2]; exact fun z => e z.symm
      · exact hn f' (by omega)
/-- the frame that has taken its next symbol: everything but the place -/
theorem ad_TF_next {f : Nat} (h8 : ad_TF g tk n c (f + 1) nd sa sn nx sto go par yN yA yX) (hl : sn f < ad_ln g (sa f)) :
    ad_TF g tk n c (f + 1) nd sa (ad_set sn f (sn f + 1)) (upd nx (nd f) (nI (ad_st g (sa f) + sn f + 1))) sto go par yN yA (upd yX f (nI (sn f + 1))) := by
  intro f' hf'
  obtain ⟨b1, b2, b3, b4, b5, b6, b7, b8, b9, b10, b11⟩ := h8 f' hf'
  have hG : ∀ q, bt (go (nd f')) q = true ↔ ad_Gs g (ad_E g tk n) n sa (ad_set sn f (sn f + 1)) f' q := fun q =>
    (b10 q).trans (ad_Gs_eq f' q fun i hi => ⟨rfl, by rw [ad_set_n (by omega)]⟩)
  by_cases e : f' = f
  · subst e
    refine ⟨b1, b2, ?_, b4, b5, ?_, ?_, b8, b9, hG, b11⟩
    · rw [ad_set_s]; omega
    · rw [pk_us, ad_set_s]
    · rw [pk_us, ad_set_s]; rfl
  · have hlt : nd f' < nd f := by
      have := (h8 f (by omega)).2.2.2.2.2.2.2.2.2.2
      exact this f' (by omega)
    refine ⟨b1, b2, ?_, b4, b5, ?_, ?_, b8, b9, hG, b11⟩
    · rw [ad_set_n e]; exact b3
    · rw [pk_un e, ad_set_n e]; exact b6
    · rw [pk_un (by omega), ad_set_n e]; exact b7
theorem ad_TF_keep {d : Nat} {nx' sto' go' par' : Nat → Int32} (h8 : ad_TF g tk n c d nd sa sn nx sto go par yN yA yX) (h : ∀ i, i < c → nx' i = nx i ∧ sto' i = sto i ∧ go' i = go i ∧ par' i = par i) : ad_TF g tk n (c + 1) d nd sa sn nx' sto' go' par' yN yA yX := by
  intro f hf
  obtain ⟨b1, b2, b3, b4, b5, b6, b7, b8, b9, b10, b11⟩ := h8 f hf
  obtain ⟨e1, e2, e3, e4⟩ := h (nd f) b1
  rw [e1, e2, e3, e4]
  exact ⟨by omega, b2, b3, b4, b5, b6, b7, b8, b9, b10, b11⟩
theorem ad_TI_tok {f : Nat} (h : ad_TI g tk n lim c (f + 1) pos step nd sa sn nx sto go par alt amb en yN yA yX yE) (hl : sn f < ad_ln g (sa f)) (hs : ad_sy g (ad_st g (sa f) + sn f) < 16) (hc : c < lim) (P : Int32) :
    pos < n ∧ ad_TI g tk n lim (c + 1) (f + 1) (pos + 1) (step + 1) nd sa (ad_set sn f (sn f + 1)) (upd nx (nd f) (nI (ad_st g (sa f) + sn f + 1))) sto go (upd par c P) (upd alt c 0) (upd amb c 0) (upd en c (nI (pos + 1))) yN yA (upd yX f (nI (sn f + 1))) (upd yE c (nI (pos + 1))) := by
  obtain ⟨h1, h2, h3, h4, h5, h6, h7, h8, h9, h10⟩ := h
  obtain ⟨m, a1, a2⟩ := ad_Gs_next hl h7
  have hm : pos < n ∧ m = pos + 1 := by
    rcases a1 with z | z
    · exact ⟨z.2.1, z.2.2.2⟩
    · exact absurd z.1 (by omega)
  obtain ⟨hp, rfl⟩ := hm
  refine ⟨hp, by omega, by omega, h3, by omega, by omega, by omega, a2, ?_, ?_, ?_⟩
  · refine ad_TF_keep (ad_TF_next h8 hl) fun i hi => ⟨rfl, rfl, rfl, ?_⟩
    rw [pk_un (by omega)]
  · intro i hi hn
    by_cases e : i = c
    · rw [e, pk_us, pk_us]
    · rw [pk_un e, pk_un e]
      exact h9 i (by omega) hn
  · intro i
    by_cases e : i = c
    · rw [e, pk_us]; exact Or.inl rfl
    · rw [pk_un e, pk_un e]; exact h10 i
theorem ad_TI_rule {f b : Nat} {num G am Y : Int32} (h : ad_TI g tk n lim c (f + 1) pos step nd sa sn nx sto go par alt amb en yN yA yX yE) (hl : sn f < ad_ln g (sa f)) (hc : c < lim) (hb : b < ad_C g) (hnum : 0 < num) (ham : am = 0 ∨ am = 1)
    (hG : ∀ q, bt G q = true ↔ ad_Gs g (ad_E g tk n) n sa (ad_set sn f (sn f + 1)) (f + 1) q)
    (hv : ∃ q, ad_ch (ad_E g tk n) (ad_sy g) (ad_st g b) (ad_ln g b) pos q ∧ bt G q = true) :
    ad_TI g tk n lim (c + 1) (f + 2) pos (step + 1) (ad_set nd (f + 1) c) (ad_set sa (f + 1) b) (ad_set (ad_set sn f (sn f + 1)) (f + 1) 0)
      (upd (upd nx (nd f) (nI (ad_st g (sa f) + sn f + 1))) c (nI (ad_st g b))) (upd sto c (nI (ad_st g b + ad_ln g b))) (upd go c G) (upd par c (nI (nd f))) (upd alt c num) (upd amb c am) en
      (upd yN (f + 1) (nI c)) (upd yA (f + 1) (nI b)) (upd (upd yX f (nI (sn f + 1))) (f + 1) 0) (upd yE c Y) := by
  obtain ⟨h1, h2, h3, h4, h5, h6, h7, h8, h9, h10⟩ := h
  obtain ⟨q, hv1, hv2⟩ := hv
  refine ⟨by omega, by omega, h3, by omega, by omega, h6, ad_Gs_push hv1 ((hG q).mp hv2), ?_, ?_, ?_⟩
  · have h8n := ad_TF_next h8 hl
    intro f' hf'
    by_cases e : f' = f + 1
    · subst e
      rw [ad_set_s, ad_set_s, ad_set_s, pk_us, pk_us, pk_us, pk_us, pk_us, pk_us, pk_us]
      refine ⟨by omega, hb, by omega, rfl, rfl, rfl, rfl, rfl, ?_, ?_, ?_⟩
      · rw [if_neg (by omega), show f + 1 - 1 = f by omega, ad_set_n (by omega)]
      · intro q
        refine (hG q).trans (ad_Gs_eq (f + 1) q fun i hi => ⟨?_, ?_⟩)
        · rw [ad_set_n (by omega)]
        · exact (ad_set_n (by omega)).symm
      · intro f' hf'
        rw [ad_set_n (by omega)]
        exact (h8 f' hf').1
    · have hlt : f' < f + 1 := by omega
      obtain ⟨b1, b2, b3, b4, b5, b6, b7, b8, b9, b10, b11⟩ := h8n f' hlt
      have hne : nd f' ≠ c := by omega
      rw [ad_set_n e, ad_set_n e, ad_set_n e, pk_un e, pk_un e, pk_un e, pk_un hne, pk_un hne, pk_un hne, pk_un hne]
      refine ⟨by omega, b2, b3, b4, b5, b6, b7, b8, ?_, ?_, ?_⟩
      · rw [b9]
        by_cases e0 : f' = 0
        · rw [if_pos e0, if_pos e0]
        · rw [if_neg e0, if_neg e0, ad_set_n (by omega)]
      · intro q
        refine (b10 q).trans (ad_Gs_eq f' q fun i hi => ⟨?_, ?_⟩)
        · rw [ad_set_n (by omega)]
        · exact (ad_set_n (by omega)).symm
      · intro i hi
        rw [ad_set_n (by omega)]
        exact b11 i hi
  · intro i hi hn
    have hic : i ≠ c := by
      have := hn (f + 1) (by omega)
      rw [ad_set_s] at this
      exact fun z => this z.symm
    rw [pk_un hic]
    refine h9 i (by omega) fun f' hf' => ?_
    have := hn f' (by omega)
    rw [ad_set_n (by omega)] at this
    exact this
  · intro i
    by_cases e : i = c
    · rw [e, pk_us, pk_us]
      rcases ham with z | z
      · exact Or.inl z
      · exact Or.inr ⟨z, hnum⟩
    · rw [pk_un e, pk_un e]; exact h10 i
/-- a rule symbol can be taken: there is an alternative -/
theorem ad_TI_some {f : Nat} (h : ad_TI g tk n lim c (f + 1) pos step nd sa sn nx sto go par alt amb en yN yA yX yE) (hl : sn f < ad_ln g (sa f)) (hs : 16 ≤ ad_sy g (ad_st g (sa f) + sn f)) :
    ∃ a q, a < ad_C g ∧ ad_ru g a = ad_sy g (ad_st g (sa f) + sn f) - 16 ∧ ad_ch (ad_E g tk n) (ad_sy g) (ad_st g a) (ad_ln g a) pos q ∧ ad_Gs g (ad_E g tk n) n sa (ad_set sn f (sn f + 1)) (f + 1) q := by
  obtain ⟨h1, h2, h3, h4, h5, h6, h7, h8, h9, h10⟩ := h
  obtain ⟨m, a1, a2⟩ := ad_Gs_next hl h7
  rcases a1 with z | z
  · exact absurd z.1 (by omega)
  · obtain ⟨a, ha, e, _, hc⟩ := ad_LR_i z.2.2
    exact ⟨a, m, ha, e, hc, a2⟩
end
end
section
/-! ===== the component: what reads alone ===== -/
theorem ad_13 (s i : Nat) : nI s * 13 + nI i = nI (s * 13 + i) := by
  show nI s * nI 13 + nI i = _
  rw [pk_mul, nI_add]
theorem ad_nb0 : vp_nar .boolean 0 = 0 := by decide
theorem ad_nb1 : vp_nar .boolean 1 = 1 := by decide
theorem ad_16 {s : Nat} (h : 16 ≤ s) : nI s - 16 = nI (s - 16) := pk_sub (b := 16) h
def ad_hX (g : ad_G) (aR aS aE sym : Nat → Int32) : Prop := ad_wf g ∧ (∀ a, a < ad_C g → aR a = nI (ad_ru g a) ∧ aS a = nI (ad_st g a) ∧ aE a = nI (ad_st g a + ad_ln g a)) ∧ ∀ i, i < ad_M g → sym i = nI (ad_sy g i)
def ad_hY (g : ad_G) (aR aS aL sym : Nat → Int32) : Prop := ad_wf g ∧ (∀ a, a < ad_C g → aR a = nI (ad_ru g a) ∧ aS a = nI (ad_st g a) ∧ aL a = nI (ad_ln g a)) ∧ ∀ i, i < ad_M g → sym i = nI (ad_sy g i)
def ad_hI (tk : Nat → Nat) (n : Nat) (inp : Nat → Int32) : Prop := n ≤ 12 ∧ ∀ i, i < n → tk i < 16 ∧ inp i = nI (tk i)
theorem ad_hX_a {g : ad_G} {aR aS aE sym : Nat → Int32} (h : ad_hX g aR aS aE sym) {a : Nat} (ha : a < ad_C g) : aR (nI a).toNatClampNeg = nI (ad_ru g a) ∧ aS (nI a).toNatClampNeg = nI (ad_st g a) ∧ aE (nI a).toNatClampNeg = nI (ad_st g a + ad_ln g a) ∧ vp_in (nI a) 16 ∧ ad_ru g a < 8 ∧ ad_st g a + ad_ln g a ≤ 48 ∧ a < 16 := by
  obtain ⟨w, h1, h2⟩ := h
  have hC := w.1
  have hM := w.2.1
  have h3 := w.2.2.1 a ha
  rw [nI_clamp (by omega)]
  obtain ⟨e1, e2, e3⟩ := h1 a ha
  exact ⟨e1, e2, e3, vp_in_nI (by omega) (by omega), h3.1, by omega, by omega⟩
theorem ad_hX_s {g : ad_G} {aR aS aE sym : Nat → Int32} (h : ad_hX g aR aS aE sym) {i : Nat} (hi : i < ad_M g) : sym (nI i).toNatClampNeg = nI (ad_sy g i) ∧ vp_in (nI i) 48 ∧ ad_sy g i < 24 ∧ i < 48 := by
  obtain ⟨w, h1, h2⟩ := h
  have hM := w.2.1
  rw [nI_clamp (by omega)]
  exact ⟨h2 i hi, vp_in_nI (by omega) (by omega), w.2.2.2 i hi, by omega⟩
theorem ad_hX_k {g : ad_G} {aR aS aE sym : Nat → Int32} (h : ad_hX g aR aS aE sym) {a k : Nat} (ha : a < ad_C g) (hk : k < ad_ln g a) : sym (nI (ad_st g a + k)).toNatClampNeg = nI (ad_sy g (ad_st g a + k)) ∧ vp_in (nI (ad_st g a + k)) 48 ∧ ad_sy g (ad_st g a + k) < 24 ∧ ad_st g a + k < 48 := by
  have := (h.1.2.2.1 a ha).2
  exact ad_hX_s h (by omega)
section
variable {f_tokenLimit f_nodeLimit f_altCount f_symbolCount f_compiled f_inputLength f_resultSize f_resultError : Int32} {a_altRule a_altNumber a_altStart a_altEnd a_symbols a_input a_firstRules a_spans a_begun a_symbolOf a_altOf a_parentOf a_startOf a_endOf a_ambiguousOf a_nextSymbol a_stopSymbol a_goalsOf : Nat → Int32}
variable {g : ad_G} {tk : Nat → Nat} {n : Nat} {post : Int32 → Prop}
theorem ax_ct {m : Int32} {i : Nat} (hi : i < 32) (h1 : bt m i = true → post 1) (h0 : ¬ bt m i = true → post 0) : wpX_contains post m (nI i) :=
  ⟨fun z => h0 ((ad_has hi).mp z), fun z => h1 (Classical.byContradiction fun y => z ((ad_has hi).mpr y))⟩
theorem ax_pa {s : Nat} {m : Int32} (hn : n ≤ 12) (hs : s < 24) (hp : post (ad_pa (ad_cX a_spans s) m (n + 1))) : wpX_placesAfter post (f_tokenLimit, f_nodeLimit, (nI (ad_C g)), (nI (ad_M g)), f_compiled, (nI n), f_resultSize, f_resultError, a_altRule, a_altNumber, a_altStart, a_altEnd, a_symbols, a_input, a_firstRules, a_spans, a_begun, a_symbolOf, a_altOf, a_parentOf, a_startOf, a_endOf, a_ambiguousOf, a_nextSymbol, a_stopSymbol, a_goalsOf) (nI s) m := by
  refine pk_loop (fun k i x => wX_placesAfter_5 post (nI s) m f_tokenLimit f_nodeLimit (nI (ad_C g)) (nI (ad_M g)) f_compiled (nI n) f_resultSize f_resultError a_altRule a_altNumber a_altStart a_altEnd a_symbols a_input a_firstRules a_spans a_begun a_symbolOf a_altOf a_parentOf a_startOf a_endOf a_ambiguousOf a_nextSymbol a_stopSymbol a_goalsOf k x (nI i)) (fun i x => x = ad_pa (ad_cX a_spans s) m i) (n + 1) 0 0 (by omega) rfl ?_ ?_
  · intro k x hx
    subst hx
    exact br_t (nI_lt (by omega) (by omega)) hp
  · intro k i x hi hx ih
    subst hx
    have hnext := ih _ rfl
    refine br_f (nI_nlt (by omega) (by omega)) (ax_ct (by omega) (fun hb => ?_) (fun hb => ?_))
    · refine br_f (by decide) ⟨pk_in (s * 13 + i) 312 (by omega) (ad_13 s i), nm_r (e' := ad_pa (ad_cX a_spans s) m (i + 1)) ?_ (nm_r (nI_1 i) hnext)⟩
      rw [ad_13, nI_clamp (by omega)]
      exact (if_pos hb).symm
    · have e : ad_pa (ad_cX a_spans s) m i = ad_pa (ad_cX a_spans s) m (i + 1) := (if_neg hb).symm
      rw [← e] at hnext
      exact br_t rfl (nm_r (nI_1 i) hnext)
theorem ax_ea {a p : Nat} (h : ad_hX g a_altRule a_altStart a_altEnd a_symbols) (hn : n ≤ 12) (ha : a < ad_C g) (hp : post (ad_ae n (ad_cX a_spans) (ad_sy g) (ad_st g a) (ad_ln g a) ((1 : Int32) <<< (nI p &&& 31)))) : wpX_endsOfAlt post (f_tokenLimit, f_nodeLimit, (nI (ad_C g)), (nI (ad_M g)), f_compiled, (nI n), f_resultSize, f_resultError, a_altRule, a_altNumber, a_altStart, a_altEnd, a_symbols, a_input, a_firstRules, a_spans, a_begun, a_symbolOf, a_altOf, a_parentOf, a_startOf, a_endOf, a_ambiguousOf, a_nextSymbol, a_stopSymbol, a_goalsOf) (nI a) (nI p) := by
  obtain ⟨e1, e2, e3, hin, h8, h48, h16⟩ := ad_hX_a h ha
  refine nm_e ⟨hin, nm_r e2 ?_⟩
  refine pk_loop (fun k d x => wX_endsOfAlt_12 post (nI a) f_tokenLimit f_nodeLimit (nI (ad_C g)) (nI (ad_M g)) f_compiled (nI n) f_resultSize f_resultError a_altRule a_altNumber a_altStart a_altEnd a_symbols a_input a_firstRules a_spans a_begun a_symbolOf a_altOf a_parentOf a_startOf a_endOf a_ambiguousOf a_nextSymbol a_stopSymbol a_goalsOf k x (nI (ad_st g a + d))) (fun d x => x = ad_ae n (ad_cX a_spans) (ad_sy g) (ad_st g a) d ((1 : Int32) <<< (nI p &&& 31))) (ad_ln g a) 0 _ (by omega) rfl ?_ ?_
  · intro k x hx
    subst hx
    refine ⟨hin, br_t ?_ hp⟩
    rw [e3]
    exact nI_le (by omega) (by omega)
  · intro k d x hd hx ih
    subst hx
    obtain ⟨s1, s2, s3, s4⟩ := ad_hX_k h ha hd
    refine ⟨hin, br_f ?_ ⟨s2, ?_⟩⟩
    · rw [e3]
      exact nI_ge (by omega) (by omega)
    · rw [s1]
      exact ax_pa hn s3 (nm_r (nI_1 _) (ih _ rfl))
theorem ax_pb {s : Nat} {m : Int32} (hn : n ≤ 12) (hs : s < 24) (hp : post (ad_pb (ad_cX a_spans s) m (n + 1))) : wpX_placesBefore post (f_tokenLimit, f_nodeLimit, (nI (ad_C g)), (nI (ad_M g)), f_compiled, (nI n), f_resultSize, f_resultError, a_altRule, a_altNumber, a_altStart, a_altEnd, a_symbols, a_input, a_firstRules, a_spans, a_begun, a_symbolOf, a_altOf, a_parentOf, a_startOf, a_endOf, a_ambiguousOf, a_nextSymbol, a_stopSymbol, a_goalsOf) (nI s) m := by
  refine pk_loop (fun k i x => wX_placesBefore_5 post (nI s) m f_tokenLimit f_nodeLimit (nI (ad_C g)) (nI (ad_M g)) f_compiled (nI n) f_resultSize f_resultError a_altRule a_altNumber a_altStart a_altEnd a_symbols a_input a_firstRules a_spans a_begun a_symbolOf a_altOf a_parentOf a_startOf a_endOf a_ambiguousOf a_nextSymbol a_stopSymbol a_goalsOf k x (nI i)) (fun i x => x = ad_pb (ad_cX a_spans s) m i) (n + 1) 0 0 (by omega) rfl ?_ ?_
  · intro k x hx
    subst hx
    exact br_t (nI_lt (by omega) (by omega)) hp
  · intro k i x hi hx ih
    subst hx
    have hnext := ih _ rfl
    have ec : a_spans (nI s * 13 + nI i).toNatClampNeg = ad_cX a_spans s i := by
      rw [ad_13, nI_clamp (by omega)]
      rfl
    refine br_f (nI_nlt (by omega) (by omega)) ⟨pk_in (s * 13 + i) 312 (by omega) (ad_13 s i), ?_⟩
    rw [ec]
    by_cases hz : (ad_cX a_spans s i &&& m) = 0
    · have e : ad_pb (ad_cX a_spans s) m i = ad_pb (ad_cX a_spans s) m (i + 1) := (if_pos hz).symm
      rw [← e] at hnext
      exact br_t hz (nm_r (nI_1 i) hnext)
    · exact br_f hz (nm_r (e' := ad_pb (ad_cX a_spans s) m (i + 1)) (if_neg hz).symm (nm_r (nI_1 i) hnext))
theorem ad_m1s (x : Int32) : x + (-1) = x - 1 := (Int32.sub_eq_add_neg x 1).symm
theorem ax_gc {c nx sto : Nat} {G : Int32} (h : ad_hX g a_altRule a_altStart a_altEnd a_symbols) (hn : n ≤ 12) (hc : c < 64) (e1 : a_nextSymbol c = nI nx) (e2 : a_stopSymbol c = nI sto) (e3 : a_goalsOf c = G) (hl : nx ≤ sto) (hM : sto ≤ ad_M g) (hp : post (ad_gl n (ad_cX a_spans) (ad_sy g) sto (sto - nx) G)) : wpX_goalsOfChild post (f_tokenLimit, f_nodeLimit, (nI (ad_C g)), (nI (ad_M g)), f_compiled, (nI n), f_resultSize, f_resultError, a_altRule, a_altNumber, a_altStart, a_altEnd, a_symbols, a_input, a_firstRules, a_spans, a_begun, a_symbolOf, a_altOf, a_parentOf, a_startOf, a_endOf, a_ambiguousOf, a_nextSymbol, a_stopSymbol, a_goalsOf) (nI c) := by
  have hin : vp_in (nI c) 64 := vp_in_nI hc (by omega)
  have h48 := h.1.2.1
  have ec : (nI c).toNatClampNeg = c := nI_clamp (by omega)
  refine ⟨hin, nm_r (show a_goalsOf (nI c).toNatClampNeg = G by rw [ec]; exact e3) ⟨hin, nm_r (show a_stopSymbol (nI c).toNatClampNeg - 1 = nI sto - 1 by rw [ec, e2]) ?_⟩⟩
  refine pk_loop (fun k d x => wX_goalsOfChild_16 post (nI c) f_tokenLimit f_nodeLimit (nI (ad_C g)) (nI (ad_M g)) f_compiled (nI n) f_resultSize f_resultError a_altRule a_altNumber a_altStart a_altEnd a_symbols a_input a_firstRules a_spans a_begun a_symbolOf a_altOf a_parentOf a_startOf a_endOf a_ambiguousOf a_nextSymbol a_stopSymbol a_goalsOf k x (nI (sto - d) - 1)) (fun d x => x = ad_gl n (ad_cX a_spans) (ad_sy g) sto d G) (sto - nx) 0 _ (by omega) rfl ?_ ?_
  · intro k x hx
    subst hx
    refine ⟨hin, br_t ?_ hp⟩
    rw [ec, e1, show sto - (sto - nx) = nx by omega]
    by_cases z : nx = 0
    · subst z
      decide
    · obtain ⟨m, rfl⟩ : ∃ m, nx = m + 1 := ⟨nx - 1, by omega⟩
      rw [nI_pred]
      exact nI_lt (by omega) (by omega)
  · intro k d x hd hx ih
    subst hx
    have hnext := ih _ rfl
    obtain ⟨m, hm⟩ : ∃ m, sto - d = m + 1 := ⟨sto - d - 1, by omega⟩
    have em : m = sto - (d + 1) := by omega
    have ex : nI (sto - d) - 1 = nI m := by rw [hm, nI_pred]
    obtain ⟨s1, s2, s3, s4⟩ := ad_hX_s h (i := m) (by omega)
    show wX_goalsOfChild_16 post (nI c) f_tokenLimit f_nodeLimit (nI (ad_C g)) (nI (ad_M g)) f_compiled (nI n) f_resultSize f_resultError a_altRule a_altNumber a_altStart a_altEnd a_symbols a_input a_firstRules a_spans a_begun a_symbolOf a_altOf a_parentOf a_startOf a_endOf a_ambiguousOf a_nextSymbol a_stopSymbol a_goalsOf (k + 1) (ad_gl n (ad_cX a_spans) (ad_sy g) sto d G) (nI (sto - d) - 1)
    rw [ex]
    refine ⟨hin, br_f ?_ ⟨s2, ?_⟩⟩
    · rw [ec, e1]
      exact nI_nlt (by omega) (by omega)
    · rw [s1]
      refine ax_pb hn s3 (nm_r (e' := nI (sto - (d + 1)) - 1) ?_ ?_)
      · rw [ad_m1s, em]
      · rw [em]
        exact hnext
theorem ax_ca {r : Nat} (h : ad_hX g a_altRule a_altStart a_altEnd a_symbols) (hr : r < 8) (hp : post (nI (ad_cn (fun i => decide (ad_ru g i = r)) (ad_C g)))) : wpX_countAlts post (f_tokenLimit, f_nodeLimit, (nI (ad_C g)), (nI (ad_M g)), f_compiled, (nI n), f_resultSize, f_resultError, a_altRule, a_altNumber, a_altStart, a_altEnd, a_symbols, a_input, a_firstRules, a_spans, a_begun, a_symbolOf, a_altOf, a_parentOf, a_startOf, a_endOf, a_ambiguousOf, a_nextSymbol, a_stopSymbol, a_goalsOf) (nI r) := by
  refine pk_loop (fun k i x => wX_countAlts_4 post (nI r) f_tokenLimit f_nodeLimit (nI (ad_C g)) (nI (ad_M g)) f_compiled (nI n) f_resultSize f_resultError a_altRule a_altNumber a_altStart a_altEnd a_symbols a_input a_firstRules a_spans a_begun a_symbolOf a_altOf a_parentOf a_startOf a_endOf a_ambiguousOf a_nextSymbol a_stopSymbol a_goalsOf k x (nI i)) (fun i x => x = nI (ad_cn (fun i => decide (ad_ru g i = r)) i)) (ad_C g) 0 0 (by omega) rfl ?_ ?_
  · intro k x hx
    subst hx
    have := h.1.1
    exact br_t (nI_le (by omega) (by omega)) hp
  · intro k i x hi hx ih
    subst hx
    have hnext := ih _ rfl
    obtain ⟨e1, e2, e3, hin, h8, h48, h16⟩ := ad_hX_a h hi
    have := h.1.1
    refine br_f (nI_ge (by omega) (by omega)) ⟨hin, ?_⟩
    rw [e1]
    refine pk_eq (ad_ru g i) r (fun e => ?_) (fun e => ?_)
    · refine nm_r (e' := nI (ad_cn (fun i => decide (ad_ru g i = r)) (i + 1))) ?_ (nm_r (nI_1 i) hnext)
      rw [nI_1]
      show _ = nI (ad_cn (fun i => decide (ad_ru g i = r)) i + (if decide (ad_ru g i = r) = true then 1 else 0))
      rw [if_pos (decide_eq_true e)]
    · have e : ad_cn (fun i => decide (ad_ru g i = r)) (i + 1) = ad_cn (fun i => decide (ad_ru g i = r)) i := by
        show ad_cn (fun i => decide (ad_ru g i = r)) i + (if decide (ad_ru g i = r) = true then 1 else 0) = _
        rw [if_neg (by rw [decide_eq_true_iff]; exact e)]
        rfl
      rw [e] at hnext
      exact nm_r (nI_1 i) hnext
end
end
section
/-! ===== the component: compile ===== -/
def ad_fr (g : ad_G) (a q : Nat) : Prop := ∃ k, k < ad_ln g a ∧ ad_sy g (ad_st g a + k) = 16 + q ∧ ∀ j, j < k → 16 ≤ ad_sy g (ad_st g a + j) ∧ ad_LS g false (ad_sy g (ad_st g a + j) - 16)
theorem ad_bw_fr {g : ad_G} {r q : Nat} : ad_bw g r q ↔ ∃ a, a < ad_C g ∧ ad_ru g a = r ∧ ad_fr g a q := Iff.rfl
def ad_und (g : ad_G) : Prop := ∃ i, i < ad_M g ∧ 16 ≤ ad_sy g i ∧ ¬ ad_df g (ad_sy g i - 16)
def ad_unp (g : ad_G) : Prop := ∃ r, r < 8 ∧ ad_df g r ∧ ¬ ad_LS g true r
def ad_bI (T : Bool) : Int32 := if T = true then 1 else 0
/-- where a run of nullable rules ends -/
theorem ad_fr_end {g : ad_G} {a d q : Nat} (hd : d ≤ ad_ln g a) (hp : ∀ j, j < d → 16 ≤ ad_sy g (ad_st g a + j) ∧ ad_LS g false (ad_sy g (ad_st g a + j) - 16)) (hs : d < ad_ln g a → ad_sy g (ad_st g a + d) < 16) : ad_fr g a q ↔ ∃ k, k < d ∧ ad_sy g (ad_st g a + k) = 16 + q := by
  constructor
  · intro ⟨k, h1, h2, h3⟩
    refine ⟨k, ?_, h2⟩
    by_cases z : k < d
    · exact z
    · have hd2 : d < ad_ln g a := by omega
      have h4 := hs hd2
      by_cases z2 : k = d
      · subst z2; omega
      · have := (h3 d (by omega)).1; omega
  · intro ⟨k, h1, h2⟩
    exact ⟨k, by omega, h2, fun j hj => hp j (by omega)⟩
theorem ad_fr_stop {g : ad_G} {a d q : Nat} (hd : d < ad_ln g a) (hp : ∀ j, j < d → 16 ≤ ad_sy g (ad_st g a + j) ∧ ad_LS g false (ad_sy g (ad_st g a + j) - 16)) (hs : ¬ ad_LS g false (ad_sy g (ad_st g a + d) - 16)) : ad_fr g a q ↔ ∃ k, k < d + 1 ∧ ad_sy g (ad_st g a + k) = 16 + q := by
  constructor
  · intro ⟨k, h1, h2, h3⟩
    refine ⟨k, ?_, h2⟩
    by_cases z : k < d + 1
    · exact z
    · exact absurd (h3 d (by omega)).2 hs
  · intro ⟨k, h1, h2⟩
    exact ⟨k, by omega, h2, fun j hj => hp j (by omega)⟩
section
variable {f_tokenLimit f_nodeLimit f_altCount f_symbolCount f_compiled f_inputLength f_resultSize f_resultError : Int32} {a_altRule a_altNumber a_altStart a_altEnd a_symbols a_input a_firstRules a_spans a_begun a_symbolOf a_altOf a_parentOf a_startOf a_endOf a_ambiguousOf a_nextSymbol a_stopSymbol a_goalsOf : Nat → Int32}
variable {g : ad_G} {tk : Nat → Nat} {n : Nat}
theorem ax_df {post : Int32 → Prop} (h : ad_hX g a_altRule a_altStart a_altEnd a_symbols) (hp : ∀ x, (∀ q, bt x q = true ↔ ad_df g q) → post x) : wpX_definedRules post (f_tokenLimit, f_nodeLimit, (nI (ad_C g)), (nI (ad_M g)), f_compiled, (nI n), f_resultSize, f_resultError, a_altRule, a_altNumber, a_altStart, a_altEnd, a_symbols, a_input, a_firstRules, a_spans, a_begun, a_symbolOf, a_altOf, a_parentOf, a_startOf, a_endOf, a_ambiguousOf, a_nextSymbol, a_stopSymbol, a_goalsOf) := by
  have hC := h.1.1
  refine pk_loop (fun k i x => wX_definedRules_4 post f_tokenLimit f_nodeLimit (nI (ad_C g)) (nI (ad_M g)) f_compiled (nI n) f_resultSize f_resultError a_altRule a_altNumber a_altStart a_altEnd a_symbols a_input a_firstRules a_spans a_begun a_symbolOf a_altOf a_parentOf a_startOf a_endOf a_ambiguousOf a_nextSymbol a_stopSymbol a_goalsOf k x (nI i)) (fun i x => ∀ q, bt x q = true ↔ ∃ a, a < i ∧ ad_ru g a = q) (ad_C g) 0 0 (by omega) ?_ ?_ ?_
  · intro q
    rw [b_0]
    exact ⟨fun z => (nomatch z), fun ⟨a, ha, _⟩ => absurd ha (Nat.not_lt_zero a)⟩
  · intro k x hx
    exact br_t (nI_le (by omega) (by omega)) (hp x hx)
  · intro k i x hi hx ih
    obtain ⟨e1, e2, e3, hin, h8, h48, h16⟩ := ad_hX_a h hi
    refine br_f (nI_ge (by omega) (by omega)) ⟨hin, ?_⟩
    rw [e1]
    refine nm_e (nm_r (nI_1 i) (ih _ ?_))
    intro q
    rw [ad_orb, ad_bit (by omega), hx]
    constructor
    · intro z
      rcases z with ⟨a, h1, h2⟩ | z
      · exact ⟨a, by omega, h2⟩
      · exact ⟨i, by omega, z.symm⟩
    · intro ⟨a, h1, h2⟩
      by_cases e : a = i
      · subst e; exact Or.inr h2.symm
      · exact Or.inl ⟨a, by omega, h2⟩
theorem ax_hu {post : Int32 → Prop} {x : Int32} (h : ad_hX g a_altRule a_altStart a_altEnd a_symbols) (hx : ∀ q, bt x q = true ↔ ad_df g q) (h1 : ad_und g → post 1) (h0 : ¬ ad_und g → post 0) : wpX_hasUndefinedRule post (f_tokenLimit, f_nodeLimit, (nI (ad_C g)), (nI (ad_M g)), f_compiled, (nI n), f_resultSize, f_resultError, a_altRule, a_altNumber, a_altStart, a_altEnd, a_symbols, a_input, a_firstRules, a_spans, a_begun, a_symbolOf, a_altOf, a_parentOf, a_startOf, a_endOf, a_ambiguousOf, a_nextSymbol, a_stopSymbol, a_goalsOf) x := by
  have hM := h.1.2.1
  refine pk_loop (fun k i (_ : Unit) => wX_hasUndefinedRule_2 post x f_tokenLimit f_nodeLimit (nI (ad_C g)) (nI (ad_M g)) f_compiled (nI n) f_resultSize f_resultError a_altRule a_altNumber a_altStart a_altEnd a_symbols a_input a_firstRules a_spans a_begun a_symbolOf a_altOf a_parentOf a_startOf a_endOf a_ambiguousOf a_nextSymbol a_stopSymbol a_goalsOf k (nI i)) (fun i _ => ∀ j, j < i → 16 ≤ ad_sy g j → ad_df g (ad_sy g j - 16)) (ad_M g) 0 () (by omega) (fun j hj => absurd hj (Nat.not_lt_zero j)) ?_ ?_
  · intro k _ hI
    exact br_t (nI_le (by omega) (by omega)) (h0 fun ⟨i, z1, z2, z3⟩ => z3 (hI i z1 z2))
  · intro k i _ hi hI ih
    obtain ⟨s1, s2, s3, s4⟩ := ad_hX_s h hi
    have hnext : (16 ≤ ad_sy g i → ad_df g (ad_sy g i - 16)) → wX_hasUndefinedRule_2 post x f_tokenLimit f_nodeLimit (nI (ad_C g)) (nI (ad_M g)) f_compiled (nI n) f_resultSize f_resultError a_altRule a_altNumber a_altStart a_altEnd a_symbols a_input a_firstRules a_spans a_begun a_symbolOf a_altOf a_parentOf a_startOf a_endOf a_ambiguousOf a_nextSymbol a_stopSymbol a_goalsOf k (nI (i + 1)) := fun hf => ih () fun j hj hs => by
      by_cases e : j = i
      · subst e; exact hf hs
      · exact hI j (by omega) hs
    refine br_f (nI_ge (by omega) (by omega)) ⟨s2, ?_⟩
    rw [s1]
    refine pk_lt (ad_sy g i) 16 (fun z => nm_r (nI_1 i) (hnext fun y => absurd y (by omega))) (fun z => ⟨s2, ?_⟩)
    rw [ad_16 z]
    refine ax_ct (by omega) (fun hb => ?_) (fun hb => ?_)
    · exact br_f (by decide) (nm_r (nI_1 i) (hnext fun _ => (hx _).mp hb))
    · exact br_t rfl (h1 ⟨i, hi, z, fun hd => hb ((hx _).mpr hd)⟩)
theorem ax_am {post : Int32 → Prop} {x : Int32} {T : Bool} {a : Nat} (h : ad_hX g a_altRule a_altStart a_altEnd a_symbols) (ha : a < ad_C g) (h1 : ad_ok g T (fun r => bt x r = true) a → post 1) (h0 : ¬ ad_ok g T (fun r => bt x r = true) a → post 0) : wpX_altMadeOf post (f_tokenLimit, f_nodeLimit, (nI (ad_C g)), (nI (ad_M g)), f_compiled, (nI n), f_resultSize, f_resultError, a_altRule, a_altNumber, a_altStart, a_altEnd, a_symbols, a_input, a_firstRules, a_spans, a_begun, a_symbolOf, a_altOf, a_parentOf, a_startOf, a_endOf, a_ambiguousOf, a_nextSymbol, a_stopSymbol, a_goalsOf) (nI a) x (ad_bI T) := by
  obtain ⟨e1, e2, e3, hin, h8, h48, h16⟩ := ad_hX_a h ha
  refine ⟨hin, nm_r e2 ?_⟩
  refine pk_loop (fun k d (_ : Unit) => wX_altMadeOf_8 post (nI a) x (ad_bI T) f_tokenLimit f_nodeLimit (nI (ad_C g)) (nI (ad_M g)) f_compiled (nI n) f_resultSize f_resultError a_altRule a_altNumber a_altStart a_altEnd a_symbols a_input a_firstRules a_spans a_begun a_symbolOf a_altOf a_parentOf a_startOf a_endOf a_ambiguousOf a_nextSymbol a_stopSymbol a_goalsOf k (nI (ad_st g a + d))) (fun d _ => ∀ k, k < d → (ad_sy g (ad_st g a + k) < 16 ∧ T = true) ∨ (16 ≤ ad_sy g (ad_st g a + k) ∧ bt x (ad_sy g (ad_st g a + k) - 16) = true)) (ad_ln g a) 0 () (by omega) (fun j hj => absurd hj (Nat.not_lt_zero j)) ?_ ?_
  · intro k _ hI
    refine ⟨hin, br_t ?_ (h1 hI)⟩
    rw [e3]
    exact nI_le (by omega) (by omega)
  · intro k d _ hd hI ih
    obtain ⟨s1, s2, s3, s4⟩ := ad_hX_k h ha hd
    have hnext : ((ad_sy g (ad_st g a + d) < 16 ∧ T = true) ∨ (16 ≤ ad_sy g (ad_st g a + d) ∧ bt x (ad_sy g (ad_st g a + d) - 16) = true)) → wX_altMadeOf_8 post (nI a) x (ad_bI T) f_tokenLimit f_nodeLimit (nI (ad_C g)) (nI (ad_M g)) f_compiled (nI n) f_resultSize f_resultError a_altRule a_altNumber a_altStart a_altEnd a_symbols a_input a_firstRules a_spans a_begun a_symbolOf a_altOf a_parentOf a_startOf a_endOf a_ambiguousOf a_nextSymbol a_stopSymbol a_goalsOf k (nI (ad_st g a + (d + 1))) := fun hf => ih () fun j hj => by
      by_cases e : j = d
      · subst e; exact hf
      · exact hI j (by omega)
    refine ⟨hin, br_f ?_ ⟨s2, ?_⟩⟩
    · rw [e3]
      exact nI_ge (by omega) (by omega)
    rw [s1]
    refine pk_le 16 (ad_sy g (ad_st g a + d)) (fun z => ⟨s2, ?_⟩) (fun z => ?_)
    · rw [ad_16 z]
      refine ax_ct (by omega) (fun hb => ?_) (fun hb => ?_)
      · exact br_f (by decide) (nm_r (nI_1 _) (hnext (Or.inr ⟨z, hb⟩)))
      · refine br_t rfl (h0 fun ho => ?_)
        rcases ho d hd with y | y
        · omega
        · exact hb y.2
    · cases T
      · refine br_t rfl (h0 fun ho => ?_)
        rcases ho d hd with y | y
        · exact (nomatch y.2)
        · omega
      · exact br_f (by decide) (nm_r (nI_1 _) (hnext (Or.inl ⟨z, rfl⟩)))
theorem ax_rm {post : Int32 → Prop} {T : Bool} (h : ad_hX g a_altRule a_altStart a_altEnd a_symbols) (hp : ∀ x, (∀ q, bt x q = true ↔ ad_LS g T q) → post x) : wpX_rulesMadeOf post (f_tokenLimit, f_nodeLimit, (nI (ad_C g)), (nI (ad_M g)), f_compiled, (nI n), f_resultSize, f_resultError, a_altRule, a_altNumber, a_altStart, a_altEnd, a_symbols, a_input, a_firstRules, a_spans, a_begun, a_symbolOf, a_altOf, a_parentOf, a_startOf, a_endOf, a_ambiguousOf, a_nextSymbol, a_stopSymbol, a_goalsOf) (ad_bI T) := by
  have hC := h.1.1
  refine pk_loop (fun k j x => wX_rulesMadeOf_4 post (ad_bI T) f_tokenLimit f_nodeLimit (nI (ad_C g)) (nI (ad_M g)) f_compiled (nI n) f_resultSize f_resultError a_altRule a_altNumber a_altStart a_altEnd a_symbols a_input a_firstRules a_spans a_begun a_symbolOf a_altOf a_parentOf a_startOf a_endOf a_ambiguousOf a_nextSymbol a_stopSymbol a_goalsOf k x (nI j)) (fun j x => ad_mI g T j 0 (fun r => bt x r)) 8 0 0 (by omega) (ad_m_0 fun r => by rw [b_0]; decide) ?_ ?_
  · intro k x hx
    exact br_t (by decide) (hp x fun q => ad_m_end h.1 (by omega) hx q)
  · intro k j x hj hx ih
    refine br_f (nI_ge (b := 8) hj (by decide)) ?_
    refine pk_loop (fun k' a x => wX_rulesMadeOf_13 post (wX_rulesMadeOf_4 post (ad_bI T) f_tokenLimit f_nodeLimit (nI (ad_C g)) (nI (ad_M g)) f_compiled (nI n) f_resultSize f_resultError a_altRule a_altNumber a_altStart a_altEnd a_symbols a_input a_firstRules a_spans a_begun a_symbolOf a_altOf a_parentOf a_startOf a_endOf a_ambiguousOf a_nextSymbol a_stopSymbol a_goalsOf k) (ad_bI T) (nI j) f_tokenLimit f_nodeLimit (nI (ad_C g)) (nI (ad_M g)) f_compiled (nI n) f_resultSize f_resultError a_altRule a_altNumber a_altStart a_altEnd a_symbols a_input a_firstRules a_spans a_begun a_symbolOf a_altOf a_parentOf a_startOf a_endOf a_ambiguousOf a_nextSymbol a_stopSymbol a_goalsOf k' x (nI a)) (fun a x => ad_mI g T j a (fun r => bt x r)) (ad_C g) 0 x (by omega) hx ?_ ?_
    · intro k' x hx
      exact br_t (nI_le (by omega) (by omega)) (nm_r (nI_1 j) (ih x (ad_m_round hx)))
    · intro k' a x ha hx ih'
      obtain ⟨e1, e2, e3, hin, h8, h48, h16⟩ := ad_hX_a h ha
      refine br_f (nI_ge (by omega) (by omega)) (ax_am h ha (fun ho => ?_) (fun ho => ?_))
      · refine br_f (by decide) ⟨hin, ?_⟩
        rw [e1]
        refine nm_e (nm_r (nI_1 a) (ih' _ (ad_m_step h.1 ha hx ho fun r => ?_)))
        rw [ad_orb, ad_bit (by omega)]
      · exact br_t rfl (nm_r (nI_1 a) (ih' x (ad_m_skip hx fun z => absurd z ho)))
theorem ax_fa {post : Int32 → Prop} {nul : Int32} {a : Nat} (h : ad_hX g a_altRule a_altStart a_altEnd a_symbols) (ha : a < ad_C g) (hN : ∀ q, bt nul q = true ↔ ad_LS g false q) (hp : ∀ x, (∀ q, bt x q = true ↔ ad_fr g a q) → post x) : wpX_firstRulesOfAlt post (f_tokenLimit, f_nodeLimit, (nI (ad_C g)), (nI (ad_M g)), f_compiled, (nI n), f_resultSize, f_resultError, a_altRule, a_altNumber, a_altStart, a_altEnd, a_symbols, a_input, a_firstRules, a_spans, a_begun, a_symbolOf, a_altOf, a_parentOf, a_startOf, a_endOf, a_ambiguousOf, a_nextSymbol, a_stopSymbol, a_goalsOf) (nI a) nul := by
  obtain ⟨e1, e2, e3, hin, h8, h48, h16⟩ := ad_hX_a h ha
  refine ⟨hin, nm_r e2 ?_⟩
  refine pk_loop (fun k d x => wX_firstRulesOfAlt_10 post (nI a) nul f_tokenLimit f_nodeLimit (nI (ad_C g)) (nI (ad_M g)) f_compiled (nI n) f_resultSize f_resultError a_altRule a_altNumber a_altStart a_altEnd a_symbols a_input a_firstRules a_spans a_begun a_symbolOf a_altOf a_parentOf a_startOf a_endOf a_ambiguousOf a_nextSymbol a_stopSymbol a_goalsOf k x (nI (ad_st g a + d))) (fun d x => (∀ j, j < d → 16 ≤ ad_sy g (ad_st g a + j) ∧ ad_LS g false (ad_sy g (ad_st g a + j) - 16)) ∧ ∀ q, bt x q = true ↔ ∃ k, k < d ∧ ad_sy g (ad_st g a + k) = 16 + q) (ad_ln g a) 0 0 (by omega) ⟨fun j hj => absurd hj (Nat.not_lt_zero j), fun q => by rw [b_0]; exact ⟨fun z => (nomatch z), fun ⟨k, hk, _⟩ => absurd hk (Nat.not_lt_zero k)⟩⟩ ?_ ?_
  · intro k x hx
    refine ⟨hin, br_t ?_ (hp x fun q => (hx.2 q).trans (ad_fr_end (Nat.le_refl _) hx.1 (fun z => absurd z (Nat.lt_irrefl _))).symm)⟩
    rw [e3]
    exact nI_le (by omega) (by omega)
  · intro k d x hd hx ih
    obtain ⟨s1, s2, s3, s4⟩ := ad_hX_k h ha hd
    refine ⟨hin, br_f ?_ ⟨s2, ?_⟩⟩
    · rw [e3]
      exact nI_ge (by omega) (by omega)
    rw [s1]
    refine pk_le 16 (ad_sy g (ad_st g a + d)) (fun z => ⟨s2, ?_⟩) (fun z => ?_)
    · refine nm_r (ad_16 z) (nm_e ?_)
      have hx' : ∀ q, bt (x ||| ((1 : Int32) <<< (nI (ad_sy g (ad_st g a + d) - 16) &&& 31))) q = true ↔ ∃ k, k < d + 1 ∧ ad_sy g (ad_st g a + k) = 16 + q := by
        intro q
        rw [ad_orb, ad_bit (by omega), hx.2]
        constructor
        · intro y
          rcases y with ⟨k, y1, y2⟩ | y
          · exact ⟨k, by omega, y2⟩
          · exact ⟨d, by omega, by omega⟩
        · intro ⟨k, y1, y2⟩
          by_cases e : k = d
          · subst e; exact Or.inr (by omega)
          · exact Or.inl ⟨k, by omega, y2⟩
      refine ax_ct (by omega) (fun hb => ?_) (fun hb => ?_)
      · refine br_f (by decide) (nm_r (nI_1 _) (ih _ ⟨?_, hx'⟩))
        intro j hj
        by_cases e : j = d
        · subst e; exact ⟨z, (hN _).mp hb⟩
        · exact hx.1 j (by omega)
      · exact br_t rfl (hp _ fun q => (hx' q).trans (ad_fr_stop hd hx.1 (fun y => hb ((hN _).mpr y))).symm)
    · exact hp x fun q => (hx.2 q).trans (ad_fr_end (by omega) hx.1 (fun _ => z)).symm
theorem ax_ff {post : SX → Prop} (h : ad_hX g a_altRule a_altStart a_altEnd a_symbols) (hp : ∀ f, (∀ r q, r < 8 → (bt (f r) q = true ↔ ad_bw g r q)) → post (f_tokenLimit, f_nodeLimit, (nI (ad_C g)), (nI (ad_M g)), f_compiled, (nI n), f_resultSize, f_resultError, a_altRule, a_altNumber, a_altStart, a_altEnd, a_symbols, a_input, f, a_spans, a_begun, a_symbolOf, a_altOf, a_parentOf, a_startOf, a_endOf, a_ambiguousOf, a_nextSymbol, a_stopSymbol, a_goalsOf)) : wpX_findFirstRules post (f_tokenLimit, f_nodeLimit, (nI (ad_C g)), (nI (ad_M g)), f_compiled, (nI n), f_resultSize, f_resultError, a_altRule, a_altNumber, a_altStart, a_altEnd, a_symbols, a_input, a_firstRules, a_spans, a_begun, a_symbolOf, a_altOf, a_parentOf, a_startOf, a_endOf, a_ambiguousOf, a_nextSymbol, a_stopSymbol, a_goalsOf) := by
  have hC := h.1.1
  refine pk_loop (fun k i f => wX_findFirstRules_2 post f_tokenLimit f_nodeLimit (nI (ad_C g)) (nI (ad_M g)) f_compiled (nI n) f_resultSize f_resultError k (nI i) a_altRule a_altNumber a_altStart a_altEnd a_symbols a_input f a_spans a_begun a_symbolOf a_altOf a_parentOf a_startOf a_endOf a_ambiguousOf a_nextSymbol a_stopSymbol a_goalsOf) (fun i f => ∀ r, r < i → f r = 0) 8 0 a_firstRules (by omega) (fun r hr => absurd hr (Nat.not_lt_zero r)) ?_ ?_
  · intro k f hf
    refine br_t (by decide) (ax_rm (T := false) h fun nul hN => ?_)
    refine pk_loop (fun k a f => wX_findFirstRules_29 post nul f_tokenLimit f_nodeLimit (nI (ad_C g)) (nI (ad_M g)) f_compiled (nI n) f_resultSize f_resultError k (nI a) a_altRule a_altNumber a_altStart a_altEnd a_symbols a_input f a_spans a_begun a_symbolOf a_altOf a_parentOf a_startOf a_endOf a_ambiguousOf a_nextSymbol a_stopSymbol a_goalsOf) (fun a f => ∀ r q, r < 8 → (bt (f r) q = true ↔ ∃ b, b < a ∧ ad_ru g b = r ∧ ad_fr g b q)) (ad_C g) 0 f (by omega) ?_ ?_ ?_
    · intro r q hr
      rw [hf r hr, b_0]
      exact ⟨fun z => (nomatch z), fun ⟨b, hb, _⟩ => absurd hb (Nat.not_lt_zero b)⟩
    · intro k f hf
      exact br_t (nI_le (by omega) (by omega)) (hp f hf)
    · intro k a f ha hf ih
      obtain ⟨e1, e2, e3, hin, h8, h48, h16⟩ := ad_hX_a h ha
      refine br_f (nI_ge (by omega) (by omega)) (ax_fa h ha hN fun x hx => ⟨hin, ?_⟩)
      rw [e1, nI_clamp (by omega)]
      have h8' : vp_in (nI (ad_ru g a)) 8 := vp_in_nI h8 (by omega)
      refine ⟨h8', h8', nm_e (nm_r (nI_1 a) (ih _ ?_))⟩
      intro r q hr
      by_cases e : r = ad_ru g a
      · subst e
        rw [pk_us, ad_orb, hf _ q h8, hx]
        constructor
        · intro z
          rcases z with ⟨b, z1, z2⟩ | z
          · exact ⟨b, by omega, z2⟩
          · exact ⟨a, by omega, rfl, z⟩
        · intro ⟨b, z1, z2, z3⟩
          by_cases e : b = a
          · subst e; exact Or.inr z3
          · exact Or.inl ⟨b, by omega, z2, z3⟩
      · rw [pk_un e, hf r q hr]
        constructor
        · intro ⟨b, z1, z2⟩
          exact ⟨b, by omega, z2⟩
        · intro ⟨b, z1, z2, z3⟩
          by_cases e2 : b = a
          · subst e2; exact absurd z2.symm e
          · exact ⟨b, by omega, z2, z3⟩
  · intro k i f hi hf ih
    refine br_f (nI_ge (b := 8) hi (by decide)) ⟨vp_in_nI hi (by omega), ?_⟩
    rw [nI_clamp (by omega)]
    refine nm_e (nm_r (nI_1 i) (ih _ ?_))
    intro r hr
    by_cases e : r = i
    · subst e; exact pk_us
    · rw [pk_un e]; exact hf r (by omega)
theorem ax_cf {post : SX → Prop} (w : ad_wf g) (hI : ad_wI g 0 a_firstRules) (hp : ∀ f, ad_wI g 8 f → post (f_tokenLimit, f_nodeLimit, (nI (ad_C g)), (nI (ad_M g)), f_compiled, (nI n), f_resultSize, f_resultError, a_altRule, a_altNumber, a_altStart, a_altEnd, a_symbols, a_input, f, a_spans, a_begun, a_symbolOf, a_altOf, a_parentOf, a_startOf, a_endOf, a_ambiguousOf, a_nextSymbol, a_stopSymbol, a_goalsOf)) : wpX_closeFirstRules post (f_tokenLimit, f_nodeLimit, (nI (ad_C g)), (nI (ad_M g)), f_compiled, (nI n), f_resultSize, f_resultError, a_altRule, a_altNumber, a_altStart, a_altEnd, a_symbols, a_input, a_firstRules, a_spans, a_begun, a_symbolOf, a_altOf, a_parentOf, a_startOf, a_endOf, a_ambiguousOf, a_nextSymbol, a_stopSymbol, a_goalsOf) := by
  refine pk_loop (fun k i f => wX_closeFirstRules_2 post f_tokenLimit f_nodeLimit (nI (ad_C g)) (nI (ad_M g)) f_compiled (nI n) f_resultSize f_resultError k (nI i) a_altRule a_altNumber a_altStart a_altEnd a_symbols a_input f a_spans a_begun a_symbolOf a_altOf a_parentOf a_startOf a_endOf a_ambiguousOf a_nextSymbol a_stopSymbol a_goalsOf) (fun i f => ad_wI g i f) 8 0 a_firstRules (by omega) hI ?_ ?_
  · intro k f hf
    exact br_t (by decide) (hp f hf)
  · intro k m f hm hf ih
    refine br_f (nI_ge (b := 8) hm (by decide)) ?_
    refine pk_loop (fun k' i f => wX_closeFirstRules_10 post (wX_closeFirstRules_2 post f_tokenLimit f_nodeLimit (nI (ad_C g)) (nI (ad_M g)) f_compiled (nI n) f_resultSize f_resultError k) (nI m) f_tokenLimit f_nodeLimit (nI (ad_C g)) (nI (ad_M g)) f_compiled (nI n) f_resultSize f_resultError k' (nI i) a_altRule a_altNumber a_altStart a_altEnd a_symbols a_input f a_spans a_begun a_symbolOf a_altOf a_parentOf a_startOf a_endOf a_ambiguousOf a_nextSymbol a_stopSymbol a_goalsOf) (fun i f' => f' = ad_ws f m i) 8 0 f (by omega) (ad_ws_0 f m).symm ?_ ?_
    · intro k' f' hf'
      subst hf'
      exact br_t (by decide) (nm_r (nI_1 m) (ih _ (ad_wI_s w hm hf)))
    · intro k' i f' hi hf' ih'
      subst hf'
      have hnext := ih' _ rfl
      have hin : vp_in (nI i) 8 := vp_in_nI hi (by omega)
      refine br_f (nI_ge (b := 8) hi (by decide)) ⟨hin, ?_⟩
      rw [nI_clamp (by omega), ad_ws_i]
      refine ax_ct (by omega) (fun hb => ?_) (fun hb => ?_)
      · refine br_f (by decide) ⟨hin, vp_in_nI hm (by omega), hin, ?_⟩
        rw [nI_clamp (by omega), ad_ws_m, ad_ws_t hb]
        exact nm_e (nm_r (nI_1 i) hnext)
      · rw [← ad_ws_f hb] at hnext
        exact br_t rfl (nm_r (nI_1 i) hnext)
theorem ax_hl {post : Int32 → SX → Prop} (h : ad_hX g a_altRule a_altStart a_altEnd a_symbols) (h1 : ∀ f, ad_lrec g → post 1 (f_tokenLimit, f_nodeLimit, (nI (ad_C g)), (nI (ad_M g)), f_compiled, (nI n), f_resultSize, f_resultError, a_altRule, a_altNumber, a_altStart, a_altEnd, a_symbols, a_input, f, a_spans, a_begun, a_symbolOf, a_altOf, a_parentOf, a_startOf, a_endOf, a_ambiguousOf, a_nextSymbol, a_stopSymbol, a_goalsOf)) (h0 : ∀ f, ¬ ad_lrec g → ad_RK g → post 0 (f_tokenLimit, f_nodeLimit, (nI (ad_C g)), (nI (ad_M g)), f_compiled, (nI n), f_resultSize, f_resultError, a_altRule, a_altNumber, a_altStart, a_altEnd, a_symbols, a_input, f, a_spans, a_begun, a_symbolOf, a_altOf, a_parentOf, a_startOf, a_endOf, a_ambiguousOf, a_nextSymbol, a_stopSymbol, a_goalsOf)) : wpX_hasLeftRecursion post (f_tokenLimit, f_nodeLimit, (nI (ad_C g)), (nI (ad_M g)), f_compiled, (nI n), f_resultSize, f_resultError, a_altRule, a_altNumber, a_altStart, a_altEnd, a_symbols, a_input, a_firstRules, a_spans, a_begun, a_symbolOf, a_altOf, a_parentOf, a_startOf, a_endOf, a_ambiguousOf, a_nextSymbol, a_stopSymbol, a_goalsOf) := by
  refine ax_ff h fun f0 hf0 => ?_
  refine ax_cf h.1 ⟨fun r q hb => (hf0 r q (ad_bw_lt h.1 hb).1).mpr hb, fun r q hr hb => ad_TC_1 ((hf0 r q hr).mp hb), fun k r q hk => absurd hk (Nat.not_lt_zero k)⟩ fun f hf => ?_
  refine pk_loop (fun k i (_ : Unit) => wX_hasLeftRecursion_10 post f_tokenLimit f_nodeLimit (nI (ad_C g)) (nI (ad_M g)) f_compiled (nI n) f_resultSize f_resultError a_altRule a_altNumber a_altStart a_altEnd a_symbols a_input f a_spans a_begun a_symbolOf a_altOf a_parentOf a_startOf a_endOf a_ambiguousOf a_nextSymbol a_stopSymbol a_goalsOf k (nI i)) (fun i _ => ∀ r, r < i → ¬ bt (f r) r = true) 8 0 () (by omega) (fun j hj => absurd hj (Nat.not_lt_zero j)) ?_ ?_
  · intro k _ hI
    have hn : ¬ ad_lrec g := fun ⟨r, hr, ht⟩ => hI r hr ((ad_wI_e h.1 hf hr).mpr ht)
    exact br_t (by decide) (h0 f hn (ad_wI_rk h.1 hf hn))
  · intro k i _ hi hI ih
    refine br_f (nI_ge (b := 8) hi (by decide)) ⟨vp_in_nI hi (by omega), ?_⟩
    rw [nI_clamp (by omega)]
    refine ax_ct (by omega) (fun hb => ?_) (fun hb => ?_)
    · exact br_f (by decide) (h1 f ⟨i, hi, (ad_wI_e h.1 hf hi).mp hb⟩)
    · refine br_t rfl (nm_r (nI_1 i) (ih () ?_))
      intro r hr
      by_cases e : r = i
      · subst e; exact hb
      · exact hI r (by omega)
theorem ax_compile {post : Int32 → SX → Prop} (h : ad_hX g a_altRule a_altStart a_altEnd a_symbols)
    (h1 : ¬ ad_df g 0 → post 1 (f_tokenLimit, f_nodeLimit, (nI (ad_C g)), (nI (ad_M g)), f_compiled, (nI n), f_resultSize, f_resultError, a_altRule, a_altNumber, a_altStart, a_altEnd, a_symbols, a_input, a_firstRules, a_spans, a_begun, a_symbolOf, a_altOf, a_parentOf, a_startOf, a_endOf, a_ambiguousOf, a_nextSymbol, a_stopSymbol, a_goalsOf)) (h2 : ad_df g 0 → ad_und g → post 2 (f_tokenLimit, f_nodeLimit, (nI (ad_C g)), (nI (ad_M g)), f_compiled, (nI n), f_resultSize, f_resultError, a_altRule, a_altNumber, a_altStart, a_altEnd, a_symbols, a_input, a_firstRules, a_spans, a_begun, a_symbolOf, a_altOf, a_parentOf, a_startOf, a_endOf, a_ambiguousOf, a_nextSymbol, a_stopSymbol, a_goalsOf)) (h3 : ad_df g 0 → ¬ ad_und g → ad_unp g → post 3 (f_tokenLimit, f_nodeLimit, (nI (ad_C g)), (nI (ad_M g)), f_compiled, (nI n), f_resultSize, f_resultError, a_altRule, a_altNumber, a_altStart, a_altEnd, a_symbols, a_input, a_firstRules, a_spans, a_begun, a_symbolOf, a_altOf, a_parentOf, a_startOf, a_endOf, a_ambiguousOf, a_nextSymbol, a_stopSymbol, a_goalsOf))
    (h4 : ∀ f, ad_df g 0 → ¬ ad_und g → ¬ ad_unp g → ad_lrec g → post 4 (f_tokenLimit, f_nodeLimit, (nI (ad_C g)), (nI (ad_M g)), f_compiled, (nI n), f_resultSize, f_resultError, a_altRule, a_altNumber, a_altStart, a_altEnd, a_symbols, a_input, f, a_spans, a_begun, a_symbolOf, a_altOf, a_parentOf, a_startOf, a_endOf, a_ambiguousOf, a_nextSymbol, a_stopSymbol, a_goalsOf))
    (h5 : ∀ f, ad_df g 0 → ¬ ad_und g → ¬ ad_unp g → ¬ ad_lrec g → ad_RK g → post 0 (f_tokenLimit, f_nodeLimit, (nI (ad_C g)), (nI (ad_M g)), 1, (nI n), f_resultSize, f_resultError, a_altRule, a_altNumber, a_altStart, a_altEnd, a_symbols, a_input, f, a_spans, a_begun, a_symbolOf, a_altOf, a_parentOf, a_startOf, a_endOf, a_ambiguousOf, a_nextSymbol, a_stopSymbol, a_goalsOf)) : wpX_compile post (f_tokenLimit, f_nodeLimit, (nI (ad_C g)), (nI (ad_M g)), f_compiled, (nI n), f_resultSize, f_resultError, a_altRule, a_altNumber, a_altStart, a_altEnd, a_symbols, a_input, a_firstRules, a_spans, a_begun, a_symbolOf, a_altOf, a_parentOf, a_startOf, a_endOf, a_ambiguousOf, a_nextSymbol, a_stopSymbol, a_goalsOf) := by
  refine ax_df h fun x hx => ?_
  refine ax_ct (i := 0) (by omega) (fun hb => ?_) (fun hb => ?_)
  · have hd := (hx 0).mp hb
    refine br_f (by decide) (ax_hu h hx (fun hu => br_f (by decide) (h2 hd hu)) (fun hu => br_t rfl ?_))
    refine ax_rm (T := true) h fun y hy => ?_
    by_cases e : y = x
    · have hn : ¬ ad_unp g := fun ⟨r, _, z1, z2⟩ => z2 ((hy r).mp (by rw [e]; exact (hx r).mpr z1))
      refine br_t e (ax_hl h (fun f hl => ?_) (fun f hl hr => ?_))
      · exact br_f (by decide) (h4 f hd hu hn hl)
      · exact br_t rfl (h5 f hd hu hn hl hr)
    · refine br_f e (h3 hd hu ?_)
      refine Classical.byContradiction fun z => e (ad_bext fun q => ?_)
      rw [hx, hy]
      exact ⟨ad_LS_df, fun hq => Classical.byContradiction fun y => z ⟨q, ad_df_8 h.1 hq, hq, y⟩⟩
  · exact br_t rfl (h1 fun hd => hb ((hx 0).mpr hd))
end
end
section
/-! ===== the component: spans ===== -/
theorem ad_1613 (r p : Nat) : (16 + nI r) * 13 + nI p = nI ((16 + r) * 13 + p) := by
  show (nI 16 + nI r) * nI 13 + nI p = _
  rw [nI_add, pk_mul, nI_add]
theorem ad_xI_0 {g : ad_G} {tk : Nat → Nat} {n : Nat} (ht : ∀ i, i < n → tk i < 16) (hn : n ≤ 12) {sp : Nat → Int32} (h : ∀ s p, s < 24 → p ≤ 12 → sp (s * 13 + p) = (if p < n ∧ tk p = s then (1 : Int32) <<< (nI (p + 1) &&& 31) else 0)) : ad_xI g tk n (n + 1) sp := by
  refine ⟨?_, ?_, fun p h1 h2 => absurd h1 (by omega)⟩
  · intro s p q hs hp
    rw [h s p (by omega) (by omega)]
    by_cases hc : p < n ∧ tk p = s
    · rw [if_pos hc, ad_bit (by omega)]
      exact ⟨fun z => ⟨hc.1, hc.2, z⟩, fun z => z.2.2⟩
    · rw [if_neg hc, b_0]
      exact ⟨fun z => (nomatch z), fun z => absurd ⟨z.1, z.2.1⟩ hc⟩
  · intro r p q hr hp hb
    rw [h (16 + r) p (by omega) (by omega), if_neg, b_0] at hb
    · exact (nomatch hb)
    · intro z
      have := ht p z.1
      omega
section
variable {f_tokenLimit f_nodeLimit f_altCount f_symbolCount f_compiled f_inputLength f_resultSize f_resultError : Int32} {a_altRule a_altNumber a_altStart a_altEnd a_symbols a_input a_firstRules a_spans a_begun a_symbolOf a_altOf a_parentOf a_startOf a_endOf a_ambiguousOf a_nextSymbol a_stopSymbol a_goalsOf : Nat → Int32}
variable {g : ad_G} {tk : Nat → Nat} {n : Nat}
theorem ax_fs1 {post : SX → Prop} {P : Nat} {rk : Nat → Nat} (h : ad_hX g a_altRule a_altStart a_altEnd a_symbols) (hn : n ≤ 12) (hk : ∀ r, r < 8 → rk r < 8) (hr : ∀ r q, ad_bw g r q → rk q < rk r) (hP : P ≤ n) (hI : ad_xI g tk n (P + 1) a_spans) (hp : ∀ sp, ad_xI g tk n P sp → post (f_tokenLimit, f_nodeLimit, (nI (ad_C g)), (nI (ad_M g)), f_compiled, (nI n), f_resultSize, f_resultError, a_altRule, a_altNumber, a_altStart, a_altEnd, a_symbols, a_input, a_firstRules, sp, a_begun, a_symbolOf, a_altOf, a_parentOf, a_startOf, a_endOf, a_ambiguousOf, a_nextSymbol, a_stopSymbol, a_goalsOf)) : wpX_findRuleSpansFrom post (f_tokenLimit, f_nodeLimit, (nI (ad_C g)), (nI (ad_M g)), f_compiled, (nI n), f_resultSize, f_resultError, a_altRule, a_altNumber, a_altStart, a_altEnd, a_symbols, a_input, a_firstRules, a_spans, a_begun, a_symbolOf, a_altOf, a_parentOf, a_startOf, a_endOf, a_ambiguousOf, a_nextSymbol, a_stopSymbol, a_goalsOf) (nI P) := by
  have hC := h.1.1
  refine pk_loop (fun k j sp => wX_findRuleSpansFrom_2 post (nI P) f_tokenLimit f_nodeLimit (nI (ad_C g)) (nI (ad_M g)) f_compiled (nI n) f_resultSize f_resultError k (nI j) a_altRule a_altNumber a_altStart a_altEnd a_symbols a_input a_firstRules sp a_begun a_symbolOf a_altOf a_parentOf a_startOf a_endOf a_ambiguousOf a_nextSymbol a_stopSymbol a_goalsOf) (fun j sp => ad_xJ g tk n rk P j 0 sp) 8 0 a_spans (by omega) (ad_xJ_0 hI) ?_ ?_
  · intro k sp hs
    exact br_t (by decide) (hp sp (ad_xJ_e hk hs))
  · intro k j sp hj hs ih
    refine br_f (nI_ge (b := 8) hj (by decide)) ?_
    refine pk_loop (fun k' a sp => wX_findRuleSpansFrom_10 post (wX_findRuleSpansFrom_2 post (nI P) f_tokenLimit f_nodeLimit (nI (ad_C g)) (nI (ad_M g)) f_compiled (nI n) f_resultSize f_resultError k) (nI P) (nI j) f_tokenLimit f_nodeLimit (nI (ad_C g)) (nI (ad_M g)) f_compiled (nI n) f_resultSize f_resultError k' (nI a) a_altRule a_altNumber a_altStart a_altEnd a_symbols a_input a_firstRules sp a_begun a_symbolOf a_altOf a_parentOf a_startOf a_endOf a_ambiguousOf a_nextSymbol a_stopSymbol a_goalsOf) (fun a sp => ad_xJ g tk n rk P j a sp) (ad_C g) 0 sp (by omega) hs ?_ ?_
    · intro k' sp hs
      exact br_t (nI_le (by omega) (by omega)) (nm_r (nI_1 j) (ih sp (ad_xJ_r hs)))
    · intro k' a sp ha hs ih'
      obtain ⟨e1, e2, e3, hin, h8, h48, h16⟩ := ad_hX_a h ha
      refine br_f (nI_ge (by omega) (by omega)) (ax_ea h hn ha ⟨hin, ?_⟩)
      rw [e1, ad_1613, nI_clamp (by omega)]
      have hin2 : vp_in (nI ((16 + ad_ru g a) * 13 + P)) 312 := vp_in_nI (by omega) (by omega)
      exact ⟨hin2, hin2, nm_e (nm_r (nI_1 a) (ih' _ (ad_xJ_s h.1 hn hr hP ha hs)))⟩
theorem ax_fs {post : SX → Prop} (h : ad_hX g a_altRule a_altStart a_altEnd a_symbols) (hi : ad_hI tk n a_input) (hR : ad_RK g) (hp : ∀ sp, ad_ex g tk n (ad_cX sp) → post (f_tokenLimit, f_nodeLimit, (nI (ad_C g)), (nI (ad_M g)), f_compiled, (nI n), f_resultSize, f_resultError, a_altRule, a_altNumber, a_altStart, a_altEnd, a_symbols, a_input, a_firstRules, sp, a_begun, a_symbolOf, a_altOf, a_parentOf, a_startOf, a_endOf, a_ambiguousOf, a_nextSymbol, a_stopSymbol, a_goalsOf)) : wpX_findSpans post (f_tokenLimit, f_nodeLimit, (nI (ad_C g)), (nI (ad_M g)), f_compiled, (nI n), f_resultSize, f_resultError, a_altRule, a_altNumber, a_altStart, a_altEnd, a_symbols, a_input, a_firstRules, a_spans, a_begun, a_symbolOf, a_altOf, a_parentOf, a_startOf, a_endOf, a_ambiguousOf, a_nextSymbol, a_stopSymbol, a_goalsOf) := by
  obtain ⟨rk, hk, hr⟩ := hR
  have hn := hi.1
  refine pk_loop (fun k i sp => wX_findSpans_2 post f_tokenLimit f_nodeLimit (nI (ad_C g)) (nI (ad_M g)) f_compiled (nI n) f_resultSize f_resultError k (nI i) a_altRule a_altNumber a_altStart a_altEnd a_symbols a_input a_firstRules sp a_begun a_symbolOf a_altOf a_parentOf a_startOf a_endOf a_ambiguousOf a_nextSymbol a_stopSymbol a_goalsOf) (fun i sp => ∀ t, t < i → sp t = 0) 312 0 a_spans (by omega) (fun t ht => absurd ht (Nat.not_lt_zero t)) ?_ ?_
  · intro k sp hs
    refine br_t (by decide) ?_
    refine pk_loop (fun k i sp => wX_findSpans_24 post f_tokenLimit f_nodeLimit (nI (ad_C g)) (nI (ad_M g)) f_compiled (nI n) f_resultSize f_resultError k (nI i) a_altRule a_altNumber a_altStart a_altEnd a_symbols a_input a_firstRules sp a_begun a_symbolOf a_altOf a_parentOf a_startOf a_endOf a_ambiguousOf a_nextSymbol a_stopSymbol a_goalsOf) (fun i sp => ∀ s p, s < 24 → p ≤ 12 → sp (s * 13 + p) = (if p < i ∧ tk p = s then (1 : Int32) <<< (nI (p + 1) &&& 31) else 0)) n 0 sp (by omega) ?_ ?_ ?_
    · intro s p h1 h2
      rw [hs _ (by omega), if_neg (by omega)]
    · intro k sp hs
      refine br_t (nI_le (by omega) (by omega)) ⟨n + 2, ?_⟩
      have key := pk_loopD (fun k r sp => wX_findSpans_64 post k (nI r - 1) f_tokenLimit f_nodeLimit (nI (ad_C g)) (nI (ad_M g)) f_compiled (nI n) f_resultSize f_resultError a_altRule a_altNumber a_altStart a_altEnd a_symbols a_input a_firstRules sp a_begun a_symbolOf a_altOf a_parentOf a_startOf a_endOf a_ambiguousOf a_nextSymbol a_stopSymbol a_goalsOf) (fun r sp => ad_xI g tk n r sp ∧ r ≤ n + 1) ?_ ?_ (n + 1) sp ⟨ad_xI_0 (fun i hi' => (hi.2 i hi').1) hn hs, by omega⟩
      · have key : wX_findSpans_64 post (n + 1 + 1) (nI (n + 1) - 1) f_tokenLimit f_nodeLimit (nI (ad_C g)) (nI (ad_M g)) f_compiled (nI n) f_resultSize f_resultError a_altRule a_altNumber a_altStart a_altEnd a_symbols a_input a_firstRules sp a_begun a_symbolOf a_altOf a_parentOf a_startOf a_endOf a_ambiguousOf a_nextSymbol a_stopSymbol a_goalsOf := key
        rw [nI_pred] at key
        exact key
      · intro k sp hs
        exact br_t (by decide) (hp sp (ad_x_ex hs.1))
      · intro k r sp hs ih
        show wX_findSpans_64 post (k + 1) (nI (r + 1) - 1) f_tokenLimit f_nodeLimit (nI (ad_C g)) (nI (ad_M g)) f_compiled (nI n) f_resultSize f_resultError a_altRule a_altNumber a_altStart a_altEnd a_symbols a_input a_firstRules sp a_begun a_symbolOf a_altOf a_parentOf a_startOf a_endOf a_ambiguousOf a_nextSymbol a_stopSymbol a_goalsOf
        rw [nI_pred]
        refine br_f (nI_pos (by omega)) (ax_fs1 h hn hk hr (by omega) hs.1 fun sp' hs' => nm_r (ad_m1s _) (ih sp' ⟨hs', by omega⟩))
    · intro k i sp hi' hs ih
      obtain ⟨t1, t2⟩ := hi.2 i hi'
      refine br_f (nI_ge (by omega) (by omega)) ⟨vp_in_nI (by omega) (by omega), ?_⟩
      rw [nI_clamp (by omega), t2, ad_13, nI_clamp (by omega), nI_1]
      refine ⟨vp_in_nI (by omega) (by omega), nm_e (nm_e (ih _ ?_))⟩
      intro s p hs1 hp1
      by_cases e : s * 13 + p = tk i * 13 + i
      · have e1 : p = i := by omega
        have e2 : s = tk i := by omega
        subst e1 e2
        rw [pk_us, if_pos ⟨by omega, rfl⟩]
      · rw [pk_un e, hs s p hs1 hp1]
        by_cases c : p < i ∧ tk p = s
        · rw [if_pos c, if_pos ⟨by omega, c.2⟩]
        · rw [if_neg c, if_neg]
          intro z
          have z1 := z.1
          have z2 := z.2
          by_cases c1 : p = i
          · subst c1 z2; exact e rfl
          · exact c ⟨by omega, z2⟩
  · intro k i sp hi' hs ih
    refine br_f (nI_ge (b := 312) hi' (by decide)) ⟨vp_in_nI hi' (by omega), ?_⟩
    rw [nI_clamp (by omega)]
    refine nm_e (nm_r (nI_1 i) (ih _ ?_))
    intro r hr
    by_cases e : r = i
    · subst e; exact pk_us
    · rw [pk_un e]; exact hs r (by omega)
end
end
section
/-! ===== the component: how far ===== -/
section
variable {f_tokenLimit f_nodeLimit f_altCount f_symbolCount f_compiled f_inputLength f_resultSize f_resultError : Int32} {a_altRule a_altNumber a_altStart a_altEnd a_symbols a_input a_firstRules a_spans a_begun a_symbolOf a_altOf a_parentOf a_startOf a_endOf a_ambiguousOf a_nextSymbol a_stopSymbol a_goalsOf : Nat → Int32}
variable {g : ad_G} {tk : Nat → Nat} {n : Nat}
theorem ax_ra {post : Int32 → SX → Prop} {a : Nat} (h : ad_hX g a_altRule a_altStart a_altEnd a_symbols) (hn : n ≤ 12) (ha : a < ad_C g) (hex : ad_ex g tk n (ad_cX a_spans))
    (hp : ∀ B' ret, ad_rdB g tk n a (ad_ln g a) a_begun B' → ad_rdR g tk n a (ad_ln g a) a_begun ret → post ret (f_tokenLimit, f_nodeLimit, (nI (ad_C g)), (nI (ad_M g)), f_compiled, (nI n), f_resultSize, f_resultError, a_altRule, a_altNumber, a_altStart, a_altEnd, a_symbols, a_input, a_firstRules, a_spans, B', a_symbolOf, a_altOf, a_parentOf, a_startOf, a_endOf, a_ambiguousOf, a_nextSymbol, a_stopSymbol, a_goalsOf)) : wpX_readAlt post (f_tokenLimit, f_nodeLimit, (nI (ad_C g)), (nI (ad_M g)), f_compiled, (nI n), f_resultSize, f_resultError, a_altRule, a_altNumber, a_altStart, a_altEnd, a_symbols, a_input, a_firstRules, a_spans, a_begun, a_symbolOf, a_altOf, a_parentOf, a_startOf, a_endOf, a_ambiguousOf, a_nextSymbol, a_stopSymbol, a_goalsOf) (nI a) := by
  obtain ⟨e1, e2, e3, hin, h8, h48, h16⟩ := ad_hX_a h ha
  have hae : ∀ d q, d ≤ ad_ln g a → (bt (ad_ae n (ad_cX a_spans) (ad_sy g) (ad_st g a) d (a_begun (ad_ru g a))) q = true ↔ ∃ p, bt (a_begun (ad_ru g a)) p = true ∧ ad_at g tk n a d p q) := by
    intro d q hd
    rw [ad_ae_b]
    exact ⟨fun ⟨p, z1, z2⟩ => ⟨p, z1, (ad_ex_ch h.1 hex ha (by omega) (by omega) p q).mp z2⟩, fun ⟨p, z1, z2⟩ => ⟨p, z1, (ad_ex_ch h.1 hex ha (by omega) (by omega) p q).mpr z2⟩⟩
  refine ⟨hin, ?_⟩
  rw [e1, nI_clamp (by omega)]
  refine ⟨vp_in_nI h8 (by omega), nm_e ⟨hin, nm_r e2 ?_⟩⟩
  refine lp3 (fun k d x3 B => wX_readAlt_22 post (nI a) f_tokenLimit f_nodeLimit (nI (ad_C g)) (nI (ad_M g)) f_compiled (nI n) f_resultSize f_resultError k (ad_ae n (ad_cX a_spans) (ad_sy g) (ad_st g a) d (a_begun (ad_ru g a))) x3 (nI (ad_st g a + d)) a_altRule a_altNumber a_altStart a_altEnd a_symbols a_input a_firstRules a_spans B a_symbolOf a_altOf a_parentOf a_startOf a_endOf a_ambiguousOf a_nextSymbol a_stopSymbol a_goalsOf) (fun d x3 B => d ≤ ad_ln g a ∧ ad_rdB g tk n a d a_begun B ∧ ad_rdR g tk n a d a_begun x3) (fun d _ _ => ad_ln g a - d) ?_ 0 (a_begun (ad_ru g a)) a_begun ?_
  · intro k d x3 B ⟨hd, hB, hR⟩ ih
    by_cases hdl : d = ad_ln g a
    · subst hdl
      refine ⟨hin, br_t ?_ (hp B x3 hB hR)⟩
      rw [e3]
      exact nI_le (by omega) (by omega)
    · have hd : d < ad_ln g a := by omega
      obtain ⟨s1, s2, s3, s4⟩ := ad_hX_k h ha hd
      have hR' : ad_rdR g tk n a (d + 1) a_begun (x3 ||| ad_ae n (ad_cX a_spans) (ad_sy g) (ad_st g a) (d + 1) (a_begun (ad_ru g a))) := by
        intro q
        rw [ad_orb, hR q, hae (d + 1) q (by omega)]
        constructor
        · intro z
          rcases z with ⟨k, p, z1, z2⟩ | ⟨p, z1, z2⟩
          · exact ⟨k, p, by omega, z2⟩
          · exact ⟨d + 1, p, by omega, z1, z2⟩
        · intro ⟨k, p, z1, z2, z3⟩
          by_cases e : k = d + 1
          · subst e; exact Or.inr ⟨p, z2, z3⟩
          · exact Or.inl ⟨k, p, by omega, z2, z3⟩
      refine ⟨hin, br_f ?_ ⟨s2, ?_⟩⟩
      · rw [e3]
        exact nI_ge (by omega) (by omega)
      rw [s1]
      refine pk_lt (ad_sy g (ad_st g a + d)) 16 (fun z => ?_) (fun z => ?_)
      · refine ⟨s2, ?_⟩
        rw [s1]
        refine ax_pa hn s3 (nm_e (nm_r (nI_1 _) (ih (d + 1) _ B ⟨by omega, ?_, hR'⟩ (by omega))))
        intro r m hr
        rw [hB r m hr]
        constructor
        · intro y
          rcases y with y | ⟨k, p, y1, y2⟩
          · exact Or.inl y
          · exact Or.inr ⟨k, p, by omega, y2⟩
        · intro y
          rcases y with y | ⟨k, p, y1, y2, y3, y4⟩
          · exact Or.inl y
          · by_cases e : k = d
            · subst e; omega
            · exact Or.inr ⟨k, p, by omega, y2, y3, y4⟩
      · rw [ad_16 z, nI_clamp (by omega)]
        have hin8 : vp_in (nI (ad_sy g (ad_st g a + d) - 16)) 8 := vp_in_nI (by omega) (by omega)
        refine ⟨s2, hin8, hin8, nm_e ⟨s2, ?_⟩⟩
        rw [s1]
        refine ax_pa hn s3 (nm_e (nm_r (nI_1 _) (ih (d + 1) _ _ ⟨by omega, ?_, hR'⟩ (by omega))))
        intro r m hr
        by_cases er : r = ad_sy g (ad_st g a + d) - 16
        · subst er
          rw [pk_us, ad_orb, hB _ m hr, hae d m (by omega)]
          constructor
          · intro y
            rcases y with (y | ⟨k, p, y1, y2⟩) | ⟨p, y1, y2⟩
            · exact Or.inl y
            · exact Or.inr ⟨k, p, by omega, y2⟩
            · exact Or.inr ⟨d, p, by omega, y1, y2, by omega⟩
          · intro y
            rcases y with y | ⟨k, p, y1, y2, y3, y4⟩
            · exact Or.inl (Or.inl y)
            · by_cases e : k = d
              · subst e; exact Or.inr ⟨p, y2, y3⟩
              · exact Or.inl (Or.inr ⟨k, p, by omega, y2, y3, y4⟩)
        · rw [pk_un er, hB r m hr]
          constructor
          · intro y
            rcases y with y | ⟨k, p, y1, y2⟩
            · exact Or.inl y
            · exact Or.inr ⟨k, p, by omega, y2⟩
          · intro y
            rcases y with y | ⟨k, p, y1, y2, y3, y4⟩
            · exact Or.inl y
            · by_cases e : k = d
              · subst e; omega
              · exact Or.inr ⟨k, p, by omega, y2, y3, y4⟩
  · refine ⟨by omega, ?_, ?_⟩
    · intro r m hr
      exact ⟨Or.inl, fun y => y.elim id (fun ⟨k, p, y1, _⟩ => absurd y1 (Nat.not_lt_zero k))⟩
    · intro q
      constructor
      · intro y
        exact ⟨0, q, by omega, y, rfl⟩
      · intro ⟨k, p, y1, y2, y3⟩
        have ek : k = 0 := by omega
        subst ek
        have e : p = q := y3
        subst e
        exact y2
theorem ax_mx {post : Int32 → SX → Prop} {R : Int32} (hn : n ≤ 12) (hp : post (nI (ad_mx (fun i => bt R i) (n + 1))) (f_tokenLimit, f_nodeLimit, (nI (ad_C g)), (nI (ad_M g)), f_compiled, (nI n), f_resultSize, f_resultError, a_altRule, a_altNumber, a_altStart, a_altEnd, a_symbols, a_input, a_firstRules, a_spans, a_begun, a_symbolOf, a_altOf, a_parentOf, a_startOf, a_endOf, a_ambiguousOf, a_nextSymbol, a_stopSymbol, a_goalsOf)) : ∃ k, wX_viablePrefixLength_72 post R f_tokenLimit f_nodeLimit (nI (ad_C g)) (nI (ad_M g)) f_compiled (nI n) f_resultSize f_resultError a_altRule a_altNumber a_altStart a_altEnd a_symbols a_input a_firstRules a_spans a_begun a_symbolOf a_altOf a_parentOf a_startOf a_endOf a_ambiguousOf a_nextSymbol a_stopSymbol a_goalsOf k 0 0 := by
  refine pk_loop (fun k i x => wX_viablePrefixLength_72 post R f_tokenLimit f_nodeLimit (nI (ad_C g)) (nI (ad_M g)) f_compiled (nI n) f_resultSize f_resultError a_altRule a_altNumber a_altStart a_altEnd a_symbols a_input a_firstRules a_spans a_begun a_symbolOf a_altOf a_parentOf a_startOf a_endOf a_ambiguousOf a_nextSymbol a_stopSymbol a_goalsOf k x (nI i)) (fun i x => x = nI (ad_mx (fun i => bt R i) i)) (n + 1) 0 0 (by omega) rfl ?_ ?_
  · intro k x hx
    subst hx
    exact br_t (nI_lt (by omega) (by omega)) hp
  · intro k i x hi hx ih
    subst hx
    have hnext := ih _ rfl
    refine br_f (nI_nlt (by omega) (by omega)) (ax_ct (by omega) (fun hb => ?_) (fun hb => ?_))
    · have e : ad_mx (fun i => bt R i) (i + 1) = i := if_pos hb
      rw [e] at hnext
      exact br_f (by decide) (nm_r (nI_1 i) hnext)
    · have e : ad_mx (fun i => bt R i) (i + 1) = ad_mx (fun i => bt R i) i := if_neg hb
      rw [e] at hnext
      exact br_t rfl (nm_r (nI_1 i) hnext)
theorem ax_vp {post : Int32 → SX → Prop} (h : ad_hX g a_altRule a_altStart a_altEnd a_symbols) (hn : n ≤ 12) (hex : ad_ex g tk n (ad_cX a_spans))
    (hp : ∀ B R, (∀ q, 0 < q → (bt R q = true ↔ ad_PR g tk n 0 0 q)) → post (nI (ad_mx (fun i => bt R i) (n + 1))) (f_tokenLimit, f_nodeLimit, (nI (ad_C g)), (nI (ad_M g)), f_compiled, (nI n), f_resultSize, f_resultError, a_altRule, a_altNumber, a_altStart, a_altEnd, a_symbols, a_input, a_firstRules, a_spans, B, a_symbolOf, a_altOf, a_parentOf, a_startOf, a_endOf, a_ambiguousOf, a_nextSymbol, a_stopSymbol, a_goalsOf)) : wpX_viablePrefixLength post (f_tokenLimit, f_nodeLimit, (nI (ad_C g)), (nI (ad_M g)), f_compiled, (nI n), f_resultSize, f_resultError, a_altRule, a_altNumber, a_altStart, a_altEnd, a_symbols, a_input, a_firstRules, a_spans, a_begun, a_symbolOf, a_altOf, a_parentOf, a_startOf, a_endOf, a_ambiguousOf, a_nextSymbol, a_stopSymbol, a_goalsOf) := by
  have hC := h.1.1
  refine pk_loop (fun k i B => wX_viablePrefixLength_2 post f_tokenLimit f_nodeLimit (nI (ad_C g)) (nI (ad_M g)) f_compiled (nI n) f_resultSize f_resultError k (nI i) a_altRule a_altNumber a_altStart a_altEnd a_symbols a_input a_firstRules a_spans B a_symbolOf a_altOf a_parentOf a_startOf a_endOf a_ambiguousOf a_nextSymbol a_stopSymbol a_goalsOf) (fun i B => ∀ r, r < i → B r = 0) 8 0 a_begun (by omega) (fun t ht => absurd ht (Nat.not_lt_zero t)) ?_ ?_
  · intro k B0 hB0
    refine br_t (by decide) (nm_e ?_)
    refine lp3 (fun k j R B => wX_viablePrefixLength_32 post k R (nI j) f_tokenLimit f_nodeLimit (nI (ad_C g)) (nI (ad_M g)) f_compiled (nI n) f_resultSize f_resultError a_altRule a_altNumber a_altStart a_altEnd a_symbols a_input a_firstRules a_spans B a_symbolOf a_altOf a_parentOf a_startOf a_endOf a_ambiguousOf a_nextSymbol a_stopSymbol a_goalsOf) (fun j R B => j ≤ 104 ∧ ad_vS g tk n B ∧ ad_vR g tk n R ∧ bt (B 0) 0 = true ∧ ad_rout (ad_vd g tk n B R) (1 + j) (ad_mu B 104)) (fun j _ _ => 104 - j) ?_ 0 1 _ ?_
    · intro k j R B ⟨hj, hS, hR, h0, hI⟩ ih
      by_cases hj4 : j = 104
      · subst hj4
        have hd : ad_vd g tk n B R := by
          rcases hI with z | z
          · exact z
          · have := ad_mu_le B 104; omega
        exact br_t (by decide) (ax_mx hn (hp B R (ad_v_end h.1 h0 hd hR)))
      · refine br_f (nI_ge (b := 104) (by omega) (by decide)) ?_
        refine lp3 (fun k' a R B => wX_viablePrefixLength_40 post (wX_viablePrefixLength_32 post k) (nI j) k' R (nI a) f_tokenLimit f_nodeLimit (nI (ad_C g)) (nI (ad_M g)) f_compiled (nI n) f_resultSize f_resultError a_altRule a_altNumber a_altStart a_altEnd a_symbols a_input a_firstRules a_spans B a_symbolOf a_altOf a_parentOf a_startOf a_endOf a_ambiguousOf a_nextSymbol a_stopSymbol a_goalsOf) (fun a R B => a ≤ ad_C g ∧ ad_vS g tk n B ∧ ad_vR g tk n R ∧ bt (B 0) 0 = true ∧ ad_rin (ad_vf g tk n B R) (ad_vd g tk n B R) (1 + j) (ad_mu B 104) a) (fun a _ _ => ad_C g - a) ?_ 0 R B ⟨by omega, hS, hR, h0, ad_rin_0 hI⟩
        intro k' a R B ⟨hac, hS, hR, h0, hI⟩ ih'
        by_cases hae : a = ad_C g
        · subst hae
          exact br_t (nI_le (by omega) (by omega)) (nm_r (nI_1 j) (ih (j + 1) R B ⟨by omega, hS, hR, h0, ad_rin_e (fun z => z) hI⟩ (by omega)))
        · have ha : a < ad_C g := by omega
          refine br_f (nI_ge (by omega) (by omega)) (ax_ra h hn ha hex fun B' ret hB hr => ?_)
          obtain ⟨z1, z2, z3, z4⟩ := ad_v_step h.1 hn ha hS hR h0 hB hr hI
          exact nm_e (nm_r (nI_1 a) (ih' (a + 1) _ B' ⟨by omega, z1, z2, z3, z4⟩ (by omega)))
    · refine ⟨by omega, ?_, ?_, ?_, Or.inr ?_⟩
      · intro r p hr hb
        by_cases e : r = 0
        · subst e
          rw [pk_us, ad_one, decide_eq_true_iff] at hb
          subst hb
          exact ⟨by omega, fun q hq => hq⟩
        · rw [pk_un e, hB0 r (by omega), b_0] at hb
          exact (nomatch hb)
      · intro q hb
        rw [ad_one, decide_eq_true_iff] at hb
        exact Or.inl hb
      · rw [pk_us, ad_one]
        rfl
      · refine ad_cn_pos 104 0 (by omega) ?_
        show bt (upd B0 0 1 0) 0 = true
        rw [pk_us, ad_one]
        rfl
  · intro k i B hi' hB ih
    refine br_f (nI_ge (b := 8) hi' (by decide)) ⟨vp_in_nI hi' (by omega), ?_⟩
    rw [nI_clamp (by omega)]
    refine nm_e (nm_r (nI_1 i) (ih _ ?_))
    intro r hr
    by_cases e : r = i
    · subst e; exact pk_us
    · rw [pk_un e]; exact hB r (by omega)
end
end
section
/-! ===== the reference: compile ===== -/
theorem ad_hY_a {g : ad_G} {aR aS aL sym : Nat → Int32} (h : ad_hY g aR aS aL sym) {a : Nat} (ha : a < ad_C g) : aR (nI a).toNatClampNeg = nI (ad_ru g a) ∧ aS (nI a).toNatClampNeg = nI (ad_st g a) ∧ aL (nI a).toNatClampNeg = nI (ad_ln g a) ∧ vp_in (nI a) 16 ∧ ad_ru g a < 8 ∧ ad_st g a + ad_ln g a ≤ 48 ∧ a < 16 := by
  obtain ⟨w, h1, h2⟩ := h
  have hC := w.1
  have hM := w.2.1
  have h3 := w.2.2.1 a ha
  rw [nI_clamp (by omega)]
  obtain ⟨e1, e2, e3⟩ := h1 a ha
  exact ⟨e1, e2, e3, vp_in_nI (by omega) (by omega), h3.1, by omega, by omega⟩
theorem ad_hY_s {g : ad_G} {aR aS aL sym : Nat → Int32} (h : ad_hY g aR aS aL sym) {i : Nat} (hi : i < ad_M g) : sym (nI i).toNatClampNeg = nI (ad_sy g i) ∧ vp_in (nI i) 48 ∧ ad_sy g i < 24 ∧ i < 48 := by
  obtain ⟨w, h1, h2⟩ := h
  have hM := w.2.1
  rw [nI_clamp (by omega)]
  exact ⟨h2 i hi, vp_in_nI (by omega) (by omega), w.2.2.2 i hi, by omega⟩
theorem ad_hY_k {g : ad_G} {aR aS aL sym : Nat → Int32} (h : ad_hY g aR aS aL sym) {a k : Nat} (ha : a < ad_C g) (hk : k < ad_ln g a) : sym (aS (nI a).toNatClampNeg + nI k).toNatClampNeg = nI (ad_sy g (ad_st g a + k)) ∧ vp_in (aS (nI a).toNatClampNeg + nI k) 48 ∧ ad_sy g (ad_st g a + k) < 24 ∧ ad_st g a + k < 48 := by
  have h1 := (h.1.2.2.1 a ha).2
  have h2 := (ad_hY_a h ha).2.1
  rw [h2, nI_add]
  exact ad_hY_s h (by omega)
def ad_fS (fl : Nat → Int32) : Nat → Bool := fun r => decide (r < 8 ∧ ¬ fl r = 0)
theorem ad_fS_t {fl : Nat → Int32} {r : Nat} (hr : r < 8) : ad_fS fl r = true ↔ ¬ fl r = 0 := by
  unfold ad_fS
  rw [decide_eq_true_iff]
  exact ⟨fun z => z.2, fun z => ⟨hr, z⟩⟩
theorem ad_row_t {re : Nat → Int32} {r q : Nat} (hq : q < 8) : ad_row re r q = true ↔ ¬ re (r * 8 + q) = 0 := by
  unfold ad_row
  rw [decide_eq_true_iff]
  exact ⟨fun z => z.2, fun z => ⟨hq, z⟩⟩
theorem ad_8 (s i : Nat) : nI s * 8 + nI i = nI (s * 8 + i) := by
  show nI s * nI 8 + nI i = _
  rw [pk_mul, nI_add]
theorem ad_8s {r s : Nat} (h : 16 ≤ s) : nI r * 8 + nI s - 16 = nI (r * 8 + (s - 16)) := by
  rw [ad_8]
  show nI (r * 8 + s) - nI 16 = _
  rw [pk_sub (by omega)]
  exact congrArg nI (by omega)
section
variable {f_tokenLimit f_nodeLimit f_altCount f_symCount f_hasCurrent f_compiled f_n f_count f_errPos f_depth f_lastViable : Int32} {a_altRule a_altStart a_altLen a_sym a_tok a_nSym a_nAlt a_nPar a_nStart a_nEnd a_nAmb a_ends a_pre a_flag a_beg a_reach a_stNode a_stAlt a_stNext : Nat → Int32}
variable {g : ad_G} {tk : Nat → Nat} {n : Nat}
theorem ay_df {post : Int32 → Prop} {r : Nat} (h : ad_hY g a_altRule a_altStart a_altLen a_sym) (hr : r < 32) (h1 : ad_df g r → post 1) (h0 : ¬ ad_df g r → post 0) : wpY_defined post (f_tokenLimit, f_nodeLimit, (nI (ad_C g)), (nI (ad_M g)), f_hasCurrent, f_compiled, (nI n), f_count, f_errPos, f_depth, f_lastViable, a_altRule, a_altStart, a_altLen, a_sym, a_tok, a_nSym, a_nAlt, a_nPar, a_nStart, a_nEnd, a_nAmb, a_ends, a_pre, a_flag, a_beg, a_reach, a_stNode, a_stAlt, a_stNext) (nI r) := by
  have hC := h.1.1
  refine pk_loop (fun k i (_ : Unit) => wY_defined_2 post (nI r) f_tokenLimit f_nodeLimit (nI (ad_C g)) (nI (ad_M g)) f_hasCurrent f_compiled (nI n) f_count f_errPos f_depth f_lastViable a_altRule a_altStart a_altLen a_sym a_tok a_nSym a_nAlt a_nPar a_nStart a_nEnd a_nAmb a_ends a_pre a_flag a_beg a_reach a_stNode a_stAlt a_stNext k (nI i)) (fun i _ => ∀ a, a < i → ¬ ad_ru g a = r) (ad_C g) 0 () (by omega) (fun j hj => absurd hj (Nat.not_lt_zero j)) ?_ ?_
  · intro k _ hI
    exact br_t (nI_le (by omega) (by omega)) (h0 fun ⟨a, z1, z2⟩ => hI a z1 z2)
  · intro k i _ hi hI ih
    obtain ⟨e1, e2, e3, hin, h8, h48, h16⟩ := ad_hY_a h hi
    refine br_f (nI_ge (by omega) (by omega)) ⟨hin, ?_⟩
    rw [e1]
    refine pk_eq (ad_ru g i) r (fun e => h1 ⟨i, hi, e⟩) (fun e => nm_r (nI_1 i) (ih () ?_))
    intro a ha
    by_cases ea : a = i
    · subst ea; exact e
    · exact hI a (by omega)
theorem ay_ao {post : Int32 → Prop} {T : Bool} {a : Nat} (h : ad_hY g a_altRule a_altStart a_altLen a_sym) (ha : a < ad_C g) (h1 : ad_ok g T (fun r => ad_fS a_flag r = true) a → post 1) (h0 : ¬ ad_ok g T (fun r => ad_fS a_flag r = true) a → post 0) : wpY_altOk post (f_tokenLimit, f_nodeLimit, (nI (ad_C g)), (nI (ad_M g)), f_hasCurrent, f_compiled, (nI n), f_count, f_errPos, f_depth, f_lastViable, a_altRule, a_altStart, a_altLen, a_sym, a_tok, a_nSym, a_nAlt, a_nPar, a_nStart, a_nEnd, a_nAmb, a_ends, a_pre, a_flag, a_beg, a_reach, a_stNode, a_stAlt, a_stNext) (nI a) (ad_bI (!T)) := by
  obtain ⟨e1, e2, e3, hin, h8, h48, h16⟩ := ad_hY_a h ha
  refine pk_loop (fun k d (_ : Unit) => wY_altOk_2 post (nI a) (ad_bI (!T)) f_tokenLimit f_nodeLimit (nI (ad_C g)) (nI (ad_M g)) f_hasCurrent f_compiled (nI n) f_count f_errPos f_depth f_lastViable a_altRule a_altStart a_altLen a_sym a_tok a_nSym a_nAlt a_nPar a_nStart a_nEnd a_nAmb a_ends a_pre a_flag a_beg a_reach a_stNode a_stAlt a_stNext k (nI d)) (fun d _ => ∀ k, k < d → (ad_sy g (ad_st g a + k) < 16 ∧ T = true) ∨ (16 ≤ ad_sy g (ad_st g a + k) ∧ ad_fS a_flag (ad_sy g (ad_st g a + k) - 16) = true)) (ad_ln g a) 0 () (by omega) (fun j hj => absurd hj (Nat.not_lt_zero j)) ?_ ?_
  · intro k _ hI
    refine ⟨hin, br_t ?_ (h1 hI)⟩
    rw [e3]
    exact nI_le (by omega) (by omega)
  · intro k d _ hd hI ih
    obtain ⟨s1, s2, s3, s4⟩ := ad_hY_k h ha hd
    have hnext : ((ad_sy g (ad_st g a + d) < 16 ∧ T = true) ∨ (16 ≤ ad_sy g (ad_st g a + d) ∧ ad_fS a_flag (ad_sy g (ad_st g a + d) - 16) = true)) → wY_altOk_2 post (nI a) (ad_bI (!T)) f_tokenLimit f_nodeLimit (nI (ad_C g)) (nI (ad_M g)) f_hasCurrent f_compiled (nI n) f_count f_errPos f_depth f_lastViable a_altRule a_altStart a_altLen a_sym a_tok a_nSym a_nAlt a_nPar a_nStart a_nEnd a_nAmb a_ends a_pre a_flag a_beg a_reach a_stNode a_stAlt a_stNext k (nI (d + 1)) := fun hf => ih () fun j hj => by
      by_cases e : j = d
      · subst e; exact hf
      · exact hI j (by omega)
    refine ⟨hin, br_f ?_ ⟨hin, s2, nm_r s1 ?_⟩⟩
    · rw [e3]
      exact nI_ge (by omega) (by omega)
    refine pk_le 16 (ad_sy g (ad_st g a + d)) (fun z => ?_) (fun z => ?_)
    · rw [ad_16 z, nI_clamp (by omega)]
      refine ⟨vp_in_nI (by omega) (by omega), ?_⟩
      by_cases hb : a_flag (ad_sy g (ad_st g a + d) - 16) = 0
      · refine br_t hb (h0 fun ho => ?_)
        rcases ho d hd with y | y
        · omega
        · exact (ad_fS_t (by omega)).mp y.2 hb
      · exact br_f hb (nm_r (nI_1 d) (hnext (Or.inr ⟨z, (ad_fS_t (by omega)).mpr hb⟩)))
    · cases T
      · refine br_f (by decide) (h0 fun ho => ?_)
        rcases ho d hd with y | y
        · exact (nomatch y.2)
        · omega
      · exact br_t rfl (nm_r (nI_1 d) (hnext (Or.inl ⟨z, rfl⟩)))
theorem ay_cf {post : SY → Prop} {T : Bool} (h : ad_hY g a_altRule a_altStart a_altLen a_sym) (hp : ∀ fl, (∀ q, ad_fS fl q = true ↔ ad_LS g T q) → post (f_tokenLimit, f_nodeLimit, (nI (ad_C g)), (nI (ad_M g)), f_hasCurrent, f_compiled, (nI n), f_count, f_errPos, f_depth, f_lastViable, a_altRule, a_altStart, a_altLen, a_sym, a_tok, a_nSym, a_nAlt, a_nPar, a_nStart, a_nEnd, a_nAmb, a_ends, a_pre, fl, a_beg, a_reach, a_stNode, a_stAlt, a_stNext)) : wpY_computeFlags post (f_tokenLimit, f_nodeLimit, (nI (ad_C g)), (nI (ad_M g)), f_hasCurrent, f_compiled, (nI n), f_count, f_errPos, f_depth, f_lastViable, a_altRule, a_altStart, a_altLen, a_sym, a_tok, a_nSym, a_nAlt, a_nPar, a_nStart, a_nEnd, a_nAmb, a_ends, a_pre, a_flag, a_beg, a_reach, a_stNode, a_stAlt, a_stNext) (ad_bI (!T)) := by
  have hC := h.1.1
  refine pk_loop (fun k i fl => wY_computeFlags_2 post (ad_bI (!T)) f_tokenLimit f_nodeLimit (nI (ad_C g)) (nI (ad_M g)) f_hasCurrent f_compiled (nI n) f_count f_errPos f_depth f_lastViable k (nI i) a_altRule a_altStart a_altLen a_sym a_tok a_nSym a_nAlt a_nPar a_nStart a_nEnd a_nAmb a_ends a_pre fl a_beg a_reach a_stNode a_stAlt a_stNext) (fun i fl => ∀ r, r < i → fl r = 0) 8 0 a_flag (by omega) (fun t ht => absurd ht (Nat.not_lt_zero t)) ?_ ?_
  · intro k fl hf
    refine br_t (by decide) ?_
    refine pk_loop (fun k j fl => wY_computeFlags_23 post (ad_bI (!T)) f_tokenLimit f_nodeLimit (nI (ad_C g)) (nI (ad_M g)) f_hasCurrent f_compiled (nI n) f_count f_errPos f_depth f_lastViable k (nI j) a_altRule a_altStart a_altLen a_sym a_tok a_nSym a_nAlt a_nPar a_nStart a_nEnd a_nAmb a_ends a_pre fl a_beg a_reach a_stNode a_stAlt a_stNext) (fun j fl => ad_mI g T j 0 (ad_fS fl)) 9 0 fl (by omega) (ad_m_0 fun r hr => ?_) ?_ ?_
    · have hr8 : r < 8 := (of_decide_eq_true hr).1
      exact (ad_fS_t hr8).mp hr (hf r hr8)
    · intro k fl hf
      exact br_t (by decide) (hp fl fun q => ad_m_end h.1 (by omega) hf q)
    · intro k j fl hj hf ih
      refine br_f (nI_ge (b := 9) hj (by decide)) ?_
      refine pk_loop (fun k' a fl => wY_computeFlags_31 post (wY_computeFlags_23 post (ad_bI (!T)) f_tokenLimit f_nodeLimit (nI (ad_C g)) (nI (ad_M g)) f_hasCurrent f_compiled (nI n) f_count f_errPos f_depth f_lastViable k) (ad_bI (!T)) (nI j) f_tokenLimit f_nodeLimit (nI (ad_C g)) (nI (ad_M g)) f_hasCurrent f_compiled (nI n) f_count f_errPos f_depth f_lastViable k' (nI a) a_altRule a_altStart a_altLen a_sym a_tok a_nSym a_nAlt a_nPar a_nStart a_nEnd a_nAmb a_ends a_pre fl a_beg a_reach a_stNode a_stAlt a_stNext) (fun a fl => ad_mI g T j a (ad_fS fl)) (ad_C g) 0 fl (by omega) hf ?_ ?_
      · intro k' fl hf
        exact br_t (nI_le (by omega) (by omega)) (nm_r (nI_1 j) (ih fl (ad_m_round hf)))
      · intro k' a fl ha hf ih'
        obtain ⟨e1, e2, e3, hin, h8, h48, h16⟩ := ad_hY_a h ha
        have hin8 : vp_in (nI (ad_ru g a)) 8 := vp_in_nI h8 (by omega)
        refine br_f (nI_ge (by omega) (by omega)) ⟨hin, ?_⟩
        rw [e1, nI_clamp (by omega)]
        refine ⟨hin8, ?_⟩
        by_cases hz : fl (ad_ru g a) = 0
        · refine br_t hz (ay_ao h ha (fun ho => ?_) (fun ho => ?_))
          · refine br_f (by decide) ⟨hin, hin8, nm_e (nm_r (nI_1 a) (ih' _ (ad_m_step h.1 ha hf ho fun r => ?_)))⟩
            rw [ad_nb1]
            by_cases er : r = ad_ru g a
            · subst er
              rw [ad_fS_t h8, pk_us]
              exact ⟨fun _ => Or.inr rfl, fun _ => by decide⟩
            · unfold ad_fS
              rw [pk_un er]
              exact ⟨Or.inl, fun z => z.elim id (fun y => absurd y er)⟩
          · exact br_t rfl (nm_r (nI_1 a) (ih' fl (ad_m_skip hf fun z => absurd z ho)))
        · exact br_f hz (nm_r (nI_1 a) (ih' fl (ad_m_skip hf fun _ => (ad_fS_t h8).mpr hz)))
  · intro k i fl hi hf ih
    refine br_f (nI_ge (b := 8) hi (by decide)) ⟨vp_in_nI hi (by omega), ?_⟩
    rw [nI_clamp (by omega)]
    refine nm_e (nm_r (nI_1 i) (ih _ ?_))
    intro r hr
    by_cases e : r = i
    · subst e; rw [pk_us]; exact ad_nb0
    · rw [pk_un e]; exact hf r (by omega)
theorem ay_mb {post : SY → Prop} {a : Nat} (h : ad_hY g a_altRule a_altStart a_altLen a_sym) (ha : a < ad_C g) (hN : ∀ q, ad_fS a_flag q = true ↔ ad_LS g false q) (hp : ∀ be, (∀ r q, r < 8 → (ad_row be r q = true ↔ ad_row a_beg r q = true ∨ (r = ad_ru g a ∧ ad_fr g a q))) → (∀ t, be t = a_beg t ∨ be t = 1) → post (f_tokenLimit, f_nodeLimit, (nI (ad_C g)), (nI (ad_M g)), f_hasCurrent, f_compiled, (nI n), f_count, f_errPos, f_depth, f_lastViable, a_altRule, a_altStart, a_altLen, a_sym, a_tok, a_nSym, a_nAlt, a_nPar, a_nStart, a_nEnd, a_nAmb, a_ends, a_pre, a_flag, be, a_reach, a_stNode, a_stAlt, a_stNext)) : wpY_markBegins post (f_tokenLimit, f_nodeLimit, (nI (ad_C g)), (nI (ad_M g)), f_hasCurrent, f_compiled, (nI n), f_count, f_errPos, f_depth, f_lastViable, a_altRule, a_altStart, a_altLen, a_sym, a_tok, a_nSym, a_nAlt, a_nPar, a_nStart, a_nEnd, a_nAmb, a_ends, a_pre, a_flag, a_beg, a_reach, a_stNode, a_stAlt, a_stNext) (nI a) := by
  obtain ⟨e1, e2, e3, hin, h8, h48, h16⟩ := ad_hY_a h ha
  refine ⟨hin, nm_r e1 ?_⟩
  refine pk_loop (fun k d be => wY_markBegins_9 post (nI a) (nI (ad_ru g a)) f_tokenLimit f_nodeLimit (nI (ad_C g)) (nI (ad_M g)) f_hasCurrent f_compiled (nI n) f_count f_errPos f_depth f_lastViable k (nI d) a_altRule a_altStart a_altLen a_sym a_tok a_nSym a_nAlt a_nPar a_nStart a_nEnd a_nAmb a_ends a_pre a_flag be a_reach a_stNode a_stAlt a_stNext) (fun d be => (∀ j, j < d → 16 ≤ ad_sy g (ad_st g a + j) ∧ ad_LS g false (ad_sy g (ad_st g a + j) - 16)) ∧ (∀ r q, r < 8 → (ad_row be r q = true ↔ ad_row a_beg r q = true ∨ (r = ad_ru g a ∧ ∃ k, k < d ∧ ad_sy g (ad_st g a + k) = 16 + q))) ∧ ∀ t, be t = a_beg t ∨ be t = 1) (ad_ln g a) 0 a_beg (by omega) ⟨fun j hj => absurd hj (Nat.not_lt_zero j), fun r q _ => ⟨Or.inl, fun z => z.elim id (fun ⟨_, k, hk, _⟩ => absurd hk (Nat.not_lt_zero k))⟩, fun t => Or.inl rfl⟩ ?_ ?_
  · intro k be hx
    refine ⟨hin, br_t ?_ (hp be (fun r q hr => (hx.2.1 r q hr).trans ?_) hx.2.2)⟩
    · rw [e3]
      exact nI_le (by omega) (by omega)
    · rw [ad_fr_end (Nat.le_refl _) hx.1 (fun z => absurd z (Nat.lt_irrefl _))]
  · intro k d be hd hx ih
    obtain ⟨s1, s2, s3, s4⟩ := ad_hY_k h ha hd
    refine ⟨hin, br_f ?_ ⟨hin, s2, nm_r s1 ?_⟩⟩
    · rw [e3]
      exact nI_ge (by omega) (by omega)
    refine pk_le 16 (ad_sy g (ad_st g a + d)) (fun z => ?_) (fun z => ?_)
    · rw [ad_8s z, nI_clamp (by omega), ad_16 z, nI_clamp (by omega), ad_nb1]
      refine ⟨vp_in_nI (by omega) (by omega), nm_e ⟨vp_in_nI (by omega) (by omega), ?_⟩⟩
      have hx' : ∀ r q, r < 8 → (ad_row (upd be (ad_ru g a * 8 + (ad_sy g (ad_st g a + d) - 16)) 1) r q = true ↔ ad_row a_beg r q = true ∨ (r = ad_ru g a ∧ ∃ k, k < d + 1 ∧ ad_sy g (ad_st g a + k) = 16 + q)) := by
        intro r q hr
        by_cases hq : q < 8
        · rw [ad_row_t hq]
          by_cases e : r * 8 + q = ad_ru g a * 8 + (ad_sy g (ad_st g a + d) - 16)
          · rw [e, pk_us]
            exact ⟨fun _ => Or.inr ⟨by omega, d, by omega, by omega⟩, fun _ => by decide⟩
          · rw [pk_un e, ← ad_row_t hq, hx.2.1 r q hr]
            constructor
            · intro y
              rcases y with y | ⟨y1, k, y2, y3⟩
              · exact Or.inl y
              · exact Or.inr ⟨y1, k, by omega, y3⟩
            · intro y
              rcases y with y | ⟨y1, k, y2, y3⟩
              · exact Or.inl y
              · refine Or.inr ⟨y1, k, ?_, y3⟩
                by_cases ek : k = d
                · subst ek; subst y1; omega
                · omega
        · constructor
          · intro y
            exact absurd (of_decide_eq_true y).1 hq
          · intro y
            rcases y with y | ⟨y1, k, y2, y3⟩
            · exact absurd (of_decide_eq_true y).1 hq
            · have := ad_wsy h.1 ha (k := k) (by omega)
              omega
      have hx3 : ∀ t, upd be (ad_ru g a * 8 + (ad_sy g (ad_st g a + d) - 16)) 1 t = a_beg t ∨ upd be (ad_ru g a * 8 + (ad_sy g (ad_st g a + d) - 16)) 1 t = 1 := by
        intro t
        by_cases e : t = ad_ru g a * 8 + (ad_sy g (ad_st g a + d) - 16)
        · rw [e, pk_us]; exact Or.inr rfl
        · rw [pk_un e]; exact hx.2.2 t
      by_cases hz : a_flag (ad_sy g (ad_st g a + d) - 16) = 0
      · refine br_t hz (hp _ (fun r q hr => (hx' r q hr).trans ?_) hx3)
        rw [ad_fr_stop hd hx.1 (fun y => (ad_fS_t (by omega)).mp ((hN _).mpr y) hz)]
      · refine br_f hz (nm_r (nI_1 d) (ih _ ⟨?_, hx', hx3⟩))
        intro j hj
        by_cases e : j = d
        · subst e; exact ⟨z, (hN _).mp ((ad_fS_t (by omega)).mpr hz)⟩
        · exact hx.1 j (by omega)
    · refine hp be (fun r q hr => (hx.2.1 r q hr).trans ?_) hx.2.2
      rw [ad_fr_end (by omega) hx.1 (fun _ => z)]
theorem ay_via {post : Int32 → Prop} {r q : Nat} (hr : r < 8) (hq : q < 8) (h1 : (∃ k, k < 8 ∧ ad_row a_reach r k = true ∧ ad_row a_beg k q = true) → post 1) (h0 : ¬ (∃ k, k < 8 ∧ ad_row a_reach r k = true ∧ ad_row a_beg k q = true) → post 0) : wpY_via post (f_tokenLimit, f_nodeLimit, (nI (ad_C g)), (nI (ad_M g)), f_hasCurrent, f_compiled, (nI n), f_count, f_errPos, f_depth, f_lastViable, a_altRule, a_altStart, a_altLen, a_sym, a_tok, a_nSym, a_nAlt, a_nPar, a_nStart, a_nEnd, a_nAmb, a_ends, a_pre, a_flag, a_beg, a_reach, a_stNode, a_stAlt, a_stNext) (nI r) (nI q) := by
  refine pk_loop (fun k i (_ : Unit) => wY_via_2 post (nI r) (nI q) f_tokenLimit f_nodeLimit (nI (ad_C g)) (nI (ad_M g)) f_hasCurrent f_compiled (nI n) f_count f_errPos f_depth f_lastViable a_altRule a_altStart a_altLen a_sym a_tok a_nSym a_nAlt a_nPar a_nStart a_nEnd a_nAmb a_ends a_pre a_flag a_beg a_reach a_stNode a_stAlt a_stNext k (nI i)) (fun i _ => ∀ k, k < i → ¬ (ad_row a_reach r k = true ∧ ad_row a_beg k q = true)) 8 0 () (by omega) (fun j hj => absurd hj (Nat.not_lt_zero j)) ?_ ?_
  · intro k _ hI
    exact br_t (by decide) (h0 fun ⟨k, z1, z2⟩ => hI k z1 z2)
  · intro k i _ hi hI ih
    have hnext : ¬ (ad_row a_reach r i = true ∧ ad_row a_beg i q = true) → wY_via_2 post (nI r) (nI q) f_tokenLimit f_nodeLimit (nI (ad_C g)) (nI (ad_M g)) f_hasCurrent f_compiled (nI n) f_count f_errPos f_depth f_lastViable a_altRule a_altStart a_altLen a_sym a_tok a_nSym a_nAlt a_nPar a_nStart a_nEnd a_nAmb a_ends a_pre a_flag a_beg a_reach a_stNode a_stAlt a_stNext k (nI (i + 1)) := fun hf => ih () fun j hj => by
      by_cases e : j = i
      · subst e; exact hf
      · exact hI j (by omega)
    refine br_f (nI_ge (b := 8) hi (by decide)) ⟨pk_in (r * 8 + i) 64 (by omega) (ad_8 r i), ?_⟩
    rw [ad_8, nI_clamp (by omega)]
    by_cases hz : a_reach (r * 8 + i) = 0
    · exact br_t hz (nm_r (nI_1 i) (hnext fun y => (ad_row_t hi).mp y.1 hz))
    · refine br_f hz ⟨pk_in (i * 8 + q) 64 (by omega) (ad_8 i q), ?_⟩
      rw [ad_8, nI_clamp (by omega)]
      by_cases hz2 : a_beg (i * 8 + q) = 0
      · exact br_t hz2 (nm_r (nI_1 i) (hnext fun y => (ad_row_t hq).mp y.2 hz2))
      · exact br_f hz2 (h1 ⟨i, hi, (ad_row_t hi).mpr hz, (ad_row_t hq).mpr hz2⟩)
end
end
section
/-! ===== the reference: compile, the whole ===== -/
section
variable {f_tokenLimit f_nodeLimit f_altCount f_symCount f_hasCurrent f_compiled f_n f_count f_errPos f_depth f_lastViable : Int32} {a_altRule a_altStart a_altLen a_sym a_tok a_nSym a_nAlt a_nPar a_nStart a_nEnd a_nAmb a_ends a_pre a_flag a_beg a_reach a_stNode a_stAlt a_stNext : Nat → Int32}
variable {g : ad_G} {tk : Nat → Nat} {n : Nat}
theorem ay_diag {post : Int32 → SY → Prop} {re : Nat → Int32} (w : ad_wf g) (hr : ∀ r q, r < 8 → (ad_row re r q = true ↔ ad_TC (ad_bw g) r q)) (h4 : ad_lrec g → post 4 (f_tokenLimit, f_nodeLimit, (nI (ad_C g)), (nI (ad_M g)), f_hasCurrent, f_compiled, (nI n), f_count, f_errPos, f_depth, f_lastViable, a_altRule, a_altStart, a_altLen, a_sym, a_tok, a_nSym, a_nAlt, a_nPar, a_nStart, a_nEnd, a_nAmb, a_ends, a_pre, a_flag, a_beg, re, a_stNode, a_stAlt, a_stNext)) (h5 : ¬ ad_lrec g → post 0 (f_tokenLimit, f_nodeLimit, (nI (ad_C g)), (nI (ad_M g)), f_hasCurrent, 1, (nI n), f_count, f_errPos, f_depth, f_lastViable, a_altRule, a_altStart, a_altLen, a_sym, a_tok, a_nSym, a_nAlt, a_nPar, a_nStart, a_nEnd, a_nAmb, a_ends, a_pre, a_flag, a_beg, re, a_stNode, a_stAlt, a_stNext)) : ∃ k, wY_compile_227 post f_tokenLimit f_nodeLimit (nI (ad_C g)) (nI (ad_M g)) f_hasCurrent f_compiled (nI n) f_count f_errPos f_depth f_lastViable a_altRule a_altStart a_altLen a_sym a_tok a_nSym a_nAlt a_nPar a_nStart a_nEnd a_nAmb a_ends a_pre a_flag a_beg re a_stNode a_stAlt a_stNext k 0 := by
  refine pk_loop (fun k i (_ : Unit) => wY_compile_227 post f_tokenLimit f_nodeLimit (nI (ad_C g)) (nI (ad_M g)) f_hasCurrent f_compiled (nI n) f_count f_errPos f_depth f_lastViable a_altRule a_altStart a_altLen a_sym a_tok a_nSym a_nAlt a_nPar a_nStart a_nEnd a_nAmb a_ends a_pre a_flag a_beg re a_stNode a_stAlt a_stNext k (nI i)) (fun i _ => ∀ r, r < i → ¬ ad_row re r r = true) 8 0 () (by omega) (fun j hj => absurd hj (Nat.not_lt_zero j)) ?_ ?_
  · intro k _ hI
    exact br_t (by decide) (h5 fun ⟨r, z1, z2⟩ => hI r z1 ((hr r r z1).mpr z2))
  · intro k i _ hi hI ih
    refine br_f (nI_ge (b := 8) hi (by decide)) ⟨pk_in (i * 8 + i) 64 (by omega) (ad_8 i i), ?_⟩
    rw [ad_8, nI_clamp (by omega)]
    by_cases hz : re (i * 8 + i) = 0
    · refine br_t hz (nm_r (nI_1 i) (ih () ?_))
      intro r hr'
      by_cases e : r = i
      · subst e; exact fun y => (ad_row_t hi).mp y hz
      · exact hI r (by omega)
    · exact br_f hz (h4 ⟨i, hi, (hr i i hi).mp ((ad_row_t hi).mpr hz)⟩)
theorem ay_rounds {post : Int32 → SY → Prop} {re : Nat → Int32} (w : ad_wf g) (hb : ∀ r q, r < 8 → (ad_row a_beg r q = true ↔ ad_bw g r q)) (hI : ad_qI g 0 0 re) (hp : ∀ re, (∀ r q, r < 8 → (ad_row re r q = true ↔ ad_TC (ad_bw g) r q)) → ∃ k, wY_compile_227 post f_tokenLimit f_nodeLimit (nI (ad_C g)) (nI (ad_M g)) f_hasCurrent f_compiled (nI n) f_count f_errPos f_depth f_lastViable a_altRule a_altStart a_altLen a_sym a_tok a_nSym a_nAlt a_nPar a_nStart a_nEnd a_nAmb a_ends a_pre a_flag a_beg re a_stNode a_stAlt a_stNext k 0) : ∃ k, wY_compile_168 post f_tokenLimit f_nodeLimit (nI (ad_C g)) (nI (ad_M g)) f_hasCurrent f_compiled (nI n) f_count f_errPos f_depth f_lastViable k 0 a_altRule a_altStart a_altLen a_sym a_tok a_nSym a_nAlt a_nPar a_nStart a_nEnd a_nAmb a_ends a_pre a_flag a_beg re a_stNode a_stAlt a_stNext := by
  refine pk_loop (fun k j re => wY_compile_168 post f_tokenLimit f_nodeLimit (nI (ad_C g)) (nI (ad_M g)) f_hasCurrent f_compiled (nI n) f_count f_errPos f_depth f_lastViable k (nI j) a_altRule a_altStart a_altLen a_sym a_tok a_nSym a_nAlt a_nPar a_nStart a_nEnd a_nAmb a_ends a_pre a_flag a_beg re a_stNode a_stAlt a_stNext) (fun j re => ad_qI g j 0 re) 8 0 re (by omega) hI ?_ ?_
  · intro k re hI
    exact br_t (by decide) (hp re fun r q hr => ad_q_end w hI hr)
  · intro k j re hj hI ih
    refine br_f (nI_ge (b := 8) hj (by decide)) ?_
    refine pk_loop (fun k' i re => wY_compile_176 post (wY_compile_168 post f_tokenLimit f_nodeLimit (nI (ad_C g)) (nI (ad_M g)) f_hasCurrent f_compiled (nI n) f_count f_errPos f_depth f_lastViable k) (nI j) f_tokenLimit f_nodeLimit (nI (ad_C g)) (nI (ad_M g)) f_hasCurrent f_compiled (nI n) f_count f_errPos f_depth f_lastViable k' (nI i) a_altRule a_altStart a_altLen a_sym a_tok a_nSym a_nAlt a_nPar a_nStart a_nEnd a_nAmb a_ends a_pre a_flag a_beg re a_stNode a_stAlt a_stNext) (fun i re => ad_qI g j i re) 64 0 re (by omega) hI ?_ ?_
    · intro k' re hI
      exact br_t (by decide) (nm_r (nI_1 j) (ih re (ad_q_round hI)))
    · intro k' i re hi hI ih'
      have hin : vp_in (nI i) 64 := vp_in_nI hi (by omega)
      have hei : i = (i / 8) * 8 + i % 8 := by omega
      have hq8 : i % 8 < 8 := by omega
      have hr8 : i / 8 < 8 := by omega
      refine br_f (nI_ge (b := 64) hi (by decide)) ⟨hin, ?_⟩
      rw [nI_clamp (by omega)]
      by_cases hz : re i = 0
      · refine br_t hz ⟨by decide, by decide, ?_⟩
        have e1 : nI i / 8 = nI (i / 8) := pk_div (d := 8) (by omega) (by decide) (by decide)
        have e2 : nI i - nI i / 8 * 8 = nI (i % 8) := pk_rem (d := 8) (by omega) (by decide) (by decide)
        rw [e2, e1]
        refine ay_via hr8 hq8 (fun hv => ?_) (fun hv => ?_)
        · obtain ⟨k0, v1, v2, v3⟩ := hv
          refine br_f (by decide) ⟨hin, ?_⟩
          rw [ad_nb1]
          exact nm_e (nm_r (nI_1 i) (ih' _ (ad_q_step hei hr8 hq8 hI hz v1 v2 ((hb k0 _ v1).mp v3))))
        · refine br_t rfl (nm_r (nI_1 i) (ih' re (ad_q_skip hei hq8 hI fun _ hf => ?_)))
          obtain ⟨k0, v1, v2, v3⟩ := hf
          exact absurd ⟨k0, v1, v2, (hb k0 _ v1).mpr v3⟩ hv
      · refine br_f hz (nm_r (nI_1 i) (ih' re (ad_q_skip hei hq8 hI fun _ _ => ?_)))
        refine (ad_row_t hq8).mpr ?_
        rw [← hei]
        exact hz
theorem ay_copy {post : Int32 → SY → Prop} (w : ad_wf g) (hb : ∀ r q, r < 8 → (ad_row a_beg r q = true ↔ ad_bw g r q)) (hbn : ∀ t, t < 64 → vp_nar .boolean (a_beg t) = a_beg t) (hp : ∀ re, (∀ r q, r < 8 → (ad_row re r q = true ↔ ad_TC (ad_bw g) r q)) → ∃ k, wY_compile_227 post f_tokenLimit f_nodeLimit (nI (ad_C g)) (nI (ad_M g)) f_hasCurrent f_compiled (nI n) f_count f_errPos f_depth f_lastViable a_altRule a_altStart a_altLen a_sym a_tok a_nSym a_nAlt a_nPar a_nStart a_nEnd a_nAmb a_ends a_pre a_flag a_beg re a_stNode a_stAlt a_stNext k 0) : ∃ k, wY_compile_142 post f_tokenLimit f_nodeLimit (nI (ad_C g)) (nI (ad_M g)) f_hasCurrent f_compiled (nI n) f_count f_errPos f_depth f_lastViable k 0 a_altRule a_altStart a_altLen a_sym a_tok a_nSym a_nAlt a_nPar a_nStart a_nEnd a_nAmb a_ends a_pre a_flag a_beg a_reach a_stNode a_stAlt a_stNext := by
  refine pk_loop (fun k i re => wY_compile_142 post f_tokenLimit f_nodeLimit (nI (ad_C g)) (nI (ad_M g)) f_hasCurrent f_compiled (nI n) f_count f_errPos f_depth f_lastViable k (nI i) a_altRule a_altStart a_altLen a_sym a_tok a_nSym a_nAlt a_nPar a_nStart a_nEnd a_nAmb a_ends a_pre a_flag a_beg re a_stNode a_stAlt a_stNext) (fun i re => ∀ t, t < i → re t = a_beg t) 64 0 a_reach (by omega) (fun j hj => absurd hj (Nat.not_lt_zero j)) ?_ ?_
  · intro k re hre
    refine br_t (by decide) (ay_rounds w hb (ad_q_0 fun r q hr => (Iff.trans ?_ (hb r q hr))) hp)
    by_cases hq : q < 8
    · rw [ad_row_t hq, ad_row_t hq, hre _ (by omega)]
    · exact ⟨fun y => absurd (of_decide_eq_true y).1 hq, fun y => absurd (of_decide_eq_true y).1 hq⟩
  · intro k i re hi hre ih
    have hin : vp_in (nI i) 64 := vp_in_nI hi (by omega)
    refine br_f (nI_ge (b := 64) hi (by decide)) ⟨hin, hin, ?_⟩
    rw [nI_clamp (by omega), hbn i hi]
    refine nm_e (nm_r (nI_1 i) (ih _ ?_))
    intro t ht
    by_cases e : t = i
    · subst e; exact pk_us
    · rw [pk_un e]; exact hre t (by omega)
def ad_01 (b : Nat → Int32) : Prop := ∀ t, t < 64 → b t = 0 ∨ b t = 1
theorem ad_01n {b : Nat → Int32} (h : ad_01 b) : ∀ t, t < 64 → vp_nar .boolean (b t) = b t := fun t ht => by
  rcases h t ht with z | z
  · rw [z]; exact ad_nb0
  · rw [z]; exact ad_nb1
theorem ay_marks {post : Int32 → SY → Prop} (h : ad_hY g a_altRule a_altStart a_altLen a_sym) (hN : ∀ q, ad_fS a_flag q = true ↔ ad_LS g false q) (hb0 : ∀ t, t < 64 → a_beg t = 0) (hp : ∀ be re, (∀ r q, r < 8 → (ad_row re r q = true ↔ ad_TC (ad_bw g) r q)) → ∃ k, wY_compile_227 post f_tokenLimit f_nodeLimit (nI (ad_C g)) (nI (ad_M g)) f_hasCurrent f_compiled (nI n) f_count f_errPos f_depth f_lastViable a_altRule a_altStart a_altLen a_sym a_tok a_nSym a_nAlt a_nPar a_nStart a_nEnd a_nAmb a_ends a_pre a_flag be re a_stNode a_stAlt a_stNext k 0) : ∃ k, wY_compile_121 post k 0 f_tokenLimit f_nodeLimit (nI (ad_C g)) (nI (ad_M g)) f_hasCurrent f_compiled (nI n) f_count f_errPos f_depth f_lastViable a_altRule a_altStart a_altLen a_sym a_tok a_nSym a_nAlt a_nPar a_nStart a_nEnd a_nAmb a_ends a_pre a_flag a_beg a_reach a_stNode a_stAlt a_stNext := by
  have hC := h.1.1
  refine pk_loop (fun k i be => wY_compile_121 post k (nI i) f_tokenLimit f_nodeLimit (nI (ad_C g)) (nI (ad_M g)) f_hasCurrent f_compiled (nI n) f_count f_errPos f_depth f_lastViable a_altRule a_altStart a_altLen a_sym a_tok a_nSym a_nAlt a_nPar a_nStart a_nEnd a_nAmb a_ends a_pre a_flag be a_reach a_stNode a_stAlt a_stNext) (fun i be => (∀ r q, r < 8 → (ad_row be r q = true ↔ ∃ a, a < i ∧ ad_ru g a = r ∧ ad_fr g a q)) ∧ ad_01 be) (ad_C g) 0 a_beg (by omega) ⟨?_, fun t ht => Or.inl (hb0 t ht)⟩ ?_ ?_
  · intro r q hr
    constructor
    · intro y
      have hq := (of_decide_eq_true y).1
      exact absurd (hb0 _ (by omega)) (of_decide_eq_true y).2
    · intro ⟨a, ha, _⟩
      exact absurd ha (Nat.not_lt_zero a)
  · intro k be hx
    exact br_t (nI_le (by omega) (by omega)) (ay_copy h.1 hx.1 (ad_01n hx.2) (hp be))
  · intro k a be ha hx ih
    refine br_f (nI_ge (by omega) (by omega)) (ay_mb h ha hN fun be' hb' h01 => nm_r (nI_1 a) (ih be' ⟨?_, ?_⟩))
    · intro r q hr
      rw [hb' r q hr, hx.1 r q hr]
      constructor
      · intro z
        rcases z with ⟨b, z1, z2⟩ | ⟨z1, z2⟩
        · exact ⟨b, by omega, z2⟩
        · exact ⟨a, by omega, z1.symm, z2⟩
      · intro ⟨b, z1, z2, z3⟩
        by_cases e : b = a
        · subst e; exact Or.inr ⟨z2.symm, z3⟩
        · exact Or.inl ⟨b, by omega, z2, z3⟩
    · intro t ht
      rcases h01 t with z | z
      · rw [z]; exact hx.2 t ht
      · exact Or.inr z
theorem ay_zero {post : Int32 → SY → Prop} (h : ad_hY g a_altRule a_altStart a_altLen a_sym) (hN : ∀ q, ad_fS a_flag q = true ↔ ad_LS g false q) (hp : ∀ be re, (∀ r q, r < 8 → (ad_row re r q = true ↔ ad_TC (ad_bw g) r q)) → ∃ k, wY_compile_227 post f_tokenLimit f_nodeLimit (nI (ad_C g)) (nI (ad_M g)) f_hasCurrent f_compiled (nI n) f_count f_errPos f_depth f_lastViable a_altRule a_altStart a_altLen a_sym a_tok a_nSym a_nAlt a_nPar a_nStart a_nEnd a_nAmb a_ends a_pre a_flag be re a_stNode a_stAlt a_stNext k 0) : ∃ k, wY_compile_100 post f_tokenLimit f_nodeLimit (nI (ad_C g)) (nI (ad_M g)) f_hasCurrent f_compiled (nI n) f_count f_errPos f_depth f_lastViable k 0 a_altRule a_altStart a_altLen a_sym a_tok a_nSym a_nAlt a_nPar a_nStart a_nEnd a_nAmb a_ends a_pre a_flag a_beg a_reach a_stNode a_stAlt a_stNext := by
  refine pk_loop (fun k i be => wY_compile_100 post f_tokenLimit f_nodeLimit (nI (ad_C g)) (nI (ad_M g)) f_hasCurrent f_compiled (nI n) f_count f_errPos f_depth f_lastViable k (nI i) a_altRule a_altStart a_altLen a_sym a_tok a_nSym a_nAlt a_nPar a_nStart a_nEnd a_nAmb a_ends a_pre a_flag be a_reach a_stNode a_stAlt a_stNext) (fun i be => ∀ t, t < i → be t = 0) 64 0 a_beg (by omega) (fun j hj => absurd hj (Nat.not_lt_zero j)) ?_ ?_
  · intro k be hb
    exact br_t (by decide) (ay_marks h hN hb hp)
  · intro k i be hi hb ih
    refine br_f (nI_ge (b := 64) hi (by decide)) ⟨vp_in_nI hi (by omega), ?_⟩
    rw [nI_clamp (by omega), ad_nb0]
    refine nm_e (nm_r (nI_1 i) (ih _ ?_))
    intro t ht
    by_cases e : t = i
    · subst e; exact pk_us
    · rw [pk_un e]; exact hb t (by omega)
theorem ay_unp {post : Int32 → SY → Prop} (h : ad_hY g a_altRule a_altStart a_altLen a_sym) (hN : ∀ q, ad_fS a_flag q = true ↔ ad_LS g true q) (h3 : ad_unp g → post 3 (f_tokenLimit, f_nodeLimit, (nI (ad_C g)), (nI (ad_M g)), f_hasCurrent, f_compiled, (nI n), f_count, f_errPos, f_depth, f_lastViable, a_altRule, a_altStart, a_altLen, a_sym, a_tok, a_nSym, a_nAlt, a_nPar, a_nStart, a_nEnd, a_nAmb, a_ends, a_pre, a_flag, a_beg, a_reach, a_stNode, a_stAlt, a_stNext)) (hp : ¬ ad_unp g → ∀ fl be re, (∀ r q, r < 8 → (ad_row re r q = true ↔ ad_TC (ad_bw g) r q)) → ∃ k, wY_compile_227 post f_tokenLimit f_nodeLimit (nI (ad_C g)) (nI (ad_M g)) f_hasCurrent f_compiled (nI n) f_count f_errPos f_depth f_lastViable a_altRule a_altStart a_altLen a_sym a_tok a_nSym a_nAlt a_nPar a_nStart a_nEnd a_nAmb a_ends a_pre fl be re a_stNode a_stAlt a_stNext k 0) : ∃ k, wY_compile_62 post f_tokenLimit f_nodeLimit (nI (ad_C g)) (nI (ad_M g)) f_hasCurrent f_compiled (nI n) f_count f_errPos f_depth f_lastViable a_altRule a_altStart a_altLen a_sym a_tok a_nSym a_nAlt a_nPar a_nStart a_nEnd a_nAmb a_ends a_pre a_flag a_beg a_reach a_stNode a_stAlt a_stNext k 0 := by
  refine pk_loop (fun k i (_ : Unit) => wY_compile_62 post f_tokenLimit f_nodeLimit (nI (ad_C g)) (nI (ad_M g)) f_hasCurrent f_compiled (nI n) f_count f_errPos f_depth f_lastViable a_altRule a_altStart a_altLen a_sym a_tok a_nSym a_nAlt a_nPar a_nStart a_nEnd a_nAmb a_ends a_pre a_flag a_beg a_reach a_stNode a_stAlt a_stNext k (nI i)) (fun i _ => ∀ r, r < i → ad_df g r → ad_LS g true r) 8 0 () (by omega) (fun j hj => absurd hj (Nat.not_lt_zero j)) ?_ ?_
  · intro k _ hI
    refine br_t (by decide) (ay_cf (T := false) h fun fl hfl => ?_)
    exact ay_zero h hfl fun be re hre => hp (fun ⟨r, z1, z2, z3⟩ => z3 (hI r z1 z2)) fl be re hre
  · intro k i _ hi hI ih
    have hnext : (ad_df g i → ad_LS g true i) → wY_compile_62 post f_tokenLimit f_nodeLimit (nI (ad_C g)) (nI (ad_M g)) f_hasCurrent f_compiled (nI n) f_count f_errPos f_depth f_lastViable a_altRule a_altStart a_altLen a_sym a_tok a_nSym a_nAlt a_nPar a_nStart a_nEnd a_nAmb a_ends a_pre a_flag a_beg a_reach a_stNode a_stAlt a_stNext k (nI (i + 1)) := fun hf => ih () fun j hj hd => by
      by_cases e : j = i
      · subst e; exact hf hd
      · exact hI j (by omega) hd
    refine br_f (nI_ge (b := 8) hi (by decide)) (ay_df h (by omega) (fun hd => ?_) (fun hd => ?_))
    · refine br_f (by decide) ⟨vp_in_nI hi (by omega), ?_⟩
      rw [nI_clamp (by omega)]
      by_cases hz : a_flag i = 0
      · exact br_t hz (h3 ⟨i, hi, hd, fun y => (ad_fS_t hi).mp ((hN i).mpr y) hz⟩)
      · exact br_f hz (nm_r (nI_1 i) (hnext fun _ => (hN i).mp ((ad_fS_t hi).mpr hz)))
    · exact br_t rfl (nm_r (nI_1 i) (hnext fun y => absurd y hd))
theorem ay_compile {post : Int32 → SY → Prop} (h : ad_hY g a_altRule a_altStart a_altLen a_sym)
    (h1 : ¬ ad_df g 0 → post 1 (f_tokenLimit, f_nodeLimit, (nI (ad_C g)), (nI (ad_M g)), f_hasCurrent, f_compiled, (nI n), f_count, f_errPos, f_depth, f_lastViable, a_altRule, a_altStart, a_altLen, a_sym, a_tok, a_nSym, a_nAlt, a_nPar, a_nStart, a_nEnd, a_nAmb, a_ends, a_pre, a_flag, a_beg, a_reach, a_stNode, a_stAlt, a_stNext)) (h2 : ad_df g 0 → ad_und g → post 2 (f_tokenLimit, f_nodeLimit, (nI (ad_C g)), (nI (ad_M g)), f_hasCurrent, f_compiled, (nI n), f_count, f_errPos, f_depth, f_lastViable, a_altRule, a_altStart, a_altLen, a_sym, a_tok, a_nSym, a_nAlt, a_nPar, a_nStart, a_nEnd, a_nAmb, a_ends, a_pre, a_flag, a_beg, a_reach, a_stNode, a_stAlt, a_stNext)) (h3 : ∀ fl, ad_df g 0 → ¬ ad_und g → ad_unp g → post 3 (f_tokenLimit, f_nodeLimit, (nI (ad_C g)), (nI (ad_M g)), f_hasCurrent, f_compiled, (nI n), f_count, f_errPos, f_depth, f_lastViable, a_altRule, a_altStart, a_altLen, a_sym, a_tok, a_nSym, a_nAlt, a_nPar, a_nStart, a_nEnd, a_nAmb, a_ends, a_pre, fl, a_beg, a_reach, a_stNode, a_stAlt, a_stNext))
    (h4 : ∀ fl be re, ad_df g 0 → ¬ ad_und g → ¬ ad_unp g → ad_lrec g → post 4 (f_tokenLimit, f_nodeLimit, (nI (ad_C g)), (nI (ad_M g)), f_hasCurrent, f_compiled, (nI n), f_count, f_errPos, f_depth, f_lastViable, a_altRule, a_altStart, a_altLen, a_sym, a_tok, a_nSym, a_nAlt, a_nPar, a_nStart, a_nEnd, a_nAmb, a_ends, a_pre, fl, be, re, a_stNode, a_stAlt, a_stNext))
    (h5 : ∀ fl be re, ad_df g 0 → ¬ ad_und g → ¬ ad_unp g → ¬ ad_lrec g → post 0 (f_tokenLimit, f_nodeLimit, (nI (ad_C g)), (nI (ad_M g)), f_hasCurrent, 1, (nI n), f_count, f_errPos, f_depth, f_lastViable, a_altRule, a_altStart, a_altLen, a_sym, a_tok, a_nSym, a_nAlt, a_nPar, a_nStart, a_nEnd, a_nAmb, a_ends, a_pre, fl, be, re, a_stNode, a_stAlt, a_stNext)) : wpY_compile post (f_tokenLimit, f_nodeLimit, (nI (ad_C g)), (nI (ad_M g)), f_hasCurrent, f_compiled, (nI n), f_count, f_errPos, f_depth, f_lastViable, a_altRule, a_altStart, a_altLen, a_sym, a_tok, a_nSym, a_nAlt, a_nPar, a_nStart, a_nEnd, a_nAmb, a_ends, a_pre, a_flag, a_beg, a_reach, a_stNode, a_stAlt, a_stNext) := by
  have hM := h.1.2.1
  refine ay_df (r := 0) h (by omega) (fun hd => br_f (by decide) ?_) (fun hd => br_t rfl (h1 hd))
  refine pk_loop (fun k i (_ : Unit) => wY_compile_12 post f_tokenLimit f_nodeLimit (nI (ad_C g)) (nI (ad_M g)) f_hasCurrent f_compiled (nI n) f_count f_errPos f_depth f_lastViable a_altRule a_altStart a_altLen a_sym a_tok a_nSym a_nAlt a_nPar a_nStart a_nEnd a_nAmb a_ends a_pre a_flag a_beg a_reach a_stNode a_stAlt a_stNext k (nI i)) (fun i _ => ∀ j, j < i → 16 ≤ ad_sy g j → ad_df g (ad_sy g j - 16)) (ad_M g) 0 () (by omega) (fun j hj => absurd hj (Nat.not_lt_zero j)) ?_ ?_
  · intro k _ hI
    have hu : ¬ ad_und g := fun ⟨i, z1, z2, z3⟩ => z3 (hI i z1 z2)
    refine br_t (nI_le (by omega) (by omega)) (ay_cf (T := true) h fun fl hfl => ?_)
    refine ay_unp h hfl (fun hn => h3 fl hd hu hn) (fun hn fl be re hre => ay_diag h.1 hre (fun hl => h4 fl be re hd hu hn hl) (fun hl => h5 fl be re hd hu hn hl))
  · intro k i _ hi hI ih
    obtain ⟨s1, s2, s3, s4⟩ := ad_hY_s h hi
    have hnext : (16 ≤ ad_sy g i → ad_df g (ad_sy g i - 16)) → wY_compile_12 post f_tokenLimit f_nodeLimit (nI (ad_C g)) (nI (ad_M g)) f_hasCurrent f_compiled (nI n) f_count f_errPos f_depth f_lastViable a_altRule a_altStart a_altLen a_sym a_tok a_nSym a_nAlt a_nPar a_nStart a_nEnd a_nAmb a_ends a_pre a_flag a_beg a_reach a_stNode a_stAlt a_stNext k (nI (i + 1)) := fun hf => ih () fun j hj hs => by
      by_cases e : j = i
      · subst e; exact hf hs
      · exact hI j (by omega) hs
    refine br_f (nI_ge (by omega) (by omega)) ⟨s2, ?_⟩
    rw [s1]
    refine pk_lt (ad_sy g i) 16 (fun z => nm_r (nI_1 i) (hnext fun y => absurd y (by omega))) (fun z => ⟨s2, ?_⟩)
    rw [ad_16 z]
    refine ay_df h (by omega) (fun hb => ?_) (fun hb => ?_)
    · exact br_f (by decide) (nm_r (nI_1 i) (hnext fun _ => hb))
    · exact br_t rfl (h2 hd ⟨i, hi, z, hb⟩)
end
end
section
/-! ===== the reference: ends ===== -/
section
variable {f_tokenLimit f_nodeLimit f_altCount f_symCount f_hasCurrent f_compiled f_n f_count f_errPos f_depth f_lastViable : Int32} {a_altRule a_altStart a_altLen a_sym a_tok a_nSym a_nAlt a_nPar a_nStart a_nEnd a_nAmb a_ends a_pre a_flag a_beg a_reach a_stNode a_stAlt a_stNext : Nat → Int32}
variable {g : ad_G} {tk : Nat → Nat} {n : Nat}
theorem ay_ss {post : Int32 → Prop} {s : Nat} {m : Int32} (hi : ad_hI tk n a_tok) (hs : s < 24) (hp : post (ad_pa (ad_cY tk n a_ends s) m (n + 1))) : wpY_stepSym post (f_tokenLimit, f_nodeLimit, (nI (ad_C g)), (nI (ad_M g)), f_hasCurrent, f_compiled, (nI n), f_count, f_errPos, f_depth, f_lastViable, a_altRule, a_altStart, a_altLen, a_sym, a_tok, a_nSym, a_nAlt, a_nPar, a_nStart, a_nEnd, a_nAmb, a_ends, a_pre, a_flag, a_beg, a_reach, a_stNode, a_stAlt, a_stNext) m (nI s) := by
  have hn := hi.1
  refine pk_loop (fun k i x => wY_stepSym_5 post m (nI s) f_tokenLimit f_nodeLimit (nI (ad_C g)) (nI (ad_M g)) f_hasCurrent f_compiled (nI n) f_count f_errPos f_depth f_lastViable a_altRule a_altStart a_altLen a_sym a_tok a_nSym a_nAlt a_nPar a_nStart a_nEnd a_nAmb a_ends a_pre a_flag a_beg a_reach a_stNode a_stAlt a_stNext k x (nI i)) (fun i x => x = ad_pa (ad_cY tk n a_ends s) m i) (n + 1) 0 0 (by omega) rfl ?_ ?_
  · intro k x hx
    subst hx
    exact br_t (nI_lt (by omega) (by omega)) hp
  · intro k i x hi' hx ih
    subst hx
    have hnext := ih _ rfl
    refine br_f (nI_nlt (by omega) (by omega)) (ek_if (ad_has (by omega)) (fun hb => ?_) (fun hb => ?_))
    · have e : ad_pa (ad_cY tk n a_ends s) m i = ad_pa (ad_cY tk n a_ends s) m (i + 1) := (if_neg hb).symm
      rw [← e] at hnext
      exact nm_r (nI_1 i) hnext
    · have hb : bt m i = true := Classical.byContradiction hb
      have e : ad_pa (ad_cY tk n a_ends s) m (i + 1) = (ad_pa (ad_cY tk n a_ends s) m i ||| ad_cY tk n a_ends s i) := if_pos hb
      rw [e] at hnext
      refine pk_le 16 s (fun z => ?_) (fun z => ?_)
      · rw [ad_16 z, ad_13, nI_clamp (by omega)]
        rw [show ad_cY tk n a_ends s i = a_ends ((s - 16) * 13 + i) from if_neg (by omega)] at hnext
        exact ⟨vp_in_nI (by omega) (by omega), nm_e (nm_r (nI_1 i) hnext)⟩
      · refine pk_le n i (fun y => ?_) (fun y => ?_)
        · rw [show ad_cY tk n a_ends s i = 0 from (if_pos z).trans (if_neg (by omega)), show (ad_pa (ad_cY tk n a_ends s) m i ||| 0) = ad_pa (ad_cY tk n a_ends s) m i from by simp] at hnext
          exact nm_r (nI_1 i) hnext
        · obtain ⟨t1, t2⟩ := hi.2 i y
          refine ⟨vp_in_nI (by omega) (by omega), ?_⟩
          rw [nI_clamp (by omega), t2]
          refine pk_eq (tk i) s (fun x => ?_) (fun x => ?_)
          · rw [show ad_cY tk n a_ends s i = (1 : Int32) <<< (nI (i + 1) &&& 31) from (if_pos z).trans (if_pos ⟨y, x⟩)] at hnext
            rw [nI_1]
            exact nm_e (nm_e hnext)
          · rw [show ad_cY tk n a_ends s i = 0 from (if_pos z).trans (if_neg (fun w => x w.2)), show (ad_pa (ad_cY tk n a_ends s) m i ||| 0) = ad_pa (ad_cY tk n a_ends s) m i from by simp] at hnext
            exact nm_r (nI_1 i) hnext
theorem ay_ae {post : Int32 → Prop} {a p : Nat} (h : ad_hY g a_altRule a_altStart a_altLen a_sym) (hi : ad_hI tk n a_tok) (ha : a < ad_C g) (hp : post (ad_ae n (ad_cY tk n a_ends) (ad_sy g) (ad_st g a) (ad_ln g a) ((1 : Int32) <<< (nI p &&& 31)))) : wpY_altEnds post (f_tokenLimit, f_nodeLimit, (nI (ad_C g)), (nI (ad_M g)), f_hasCurrent, f_compiled, (nI n), f_count, f_errPos, f_depth, f_lastViable, a_altRule, a_altStart, a_altLen, a_sym, a_tok, a_nSym, a_nAlt, a_nPar, a_nStart, a_nEnd, a_nAmb, a_ends, a_pre, a_flag, a_beg, a_reach, a_stNode, a_stAlt, a_stNext) (nI a) (nI p) := by
  obtain ⟨e1, e2, e3, hin, h8, h48, h16⟩ := ad_hY_a h ha
  refine nm_e ?_
  refine pk_loop (fun k d x => wY_altEnds_7 post (nI a) f_tokenLimit f_nodeLimit (nI (ad_C g)) (nI (ad_M g)) f_hasCurrent f_compiled (nI n) f_count f_errPos f_depth f_lastViable a_altRule a_altStart a_altLen a_sym a_tok a_nSym a_nAlt a_nPar a_nStart a_nEnd a_nAmb a_ends a_pre a_flag a_beg a_reach a_stNode a_stAlt a_stNext k x (nI d)) (fun d x => x = ad_ae n (ad_cY tk n a_ends) (ad_sy g) (ad_st g a) d ((1 : Int32) <<< (nI p &&& 31))) (ad_ln g a) 0 _ (by omega) rfl ?_ ?_
  · intro k x hx
    subst hx
    refine ⟨hin, br_t ?_ hp⟩
    rw [e3]
    exact nI_le (by omega) (by omega)
  · intro k d x hd hx ih
    subst hx
    obtain ⟨s1, s2, s3, s4⟩ := ad_hY_k h ha hd
    refine ⟨hin, br_f ?_ ⟨hin, s2, ?_⟩⟩
    · rw [e3]
      exact nI_ge (by omega) (by omega)
    · rw [s1]
      exact ay_ss hi s3 (nm_r (nI_1 _) (ih _ rfl))
theorem ay_re {post : Int32 → Prop} {r p : Nat} (h : ad_hY g a_altRule a_altStart a_altLen a_sym) (hi : ad_hI tk n a_tok) (hr : r < 8) (hp : post (ad_ro (ad_ru g) r (fun a => ad_ae n (ad_cY tk n a_ends) (ad_sy g) (ad_st g a) (ad_ln g a) ((1 : Int32) <<< (nI p &&& 31))) (ad_C g))) : wpY_ruleEnds post (f_tokenLimit, f_nodeLimit, (nI (ad_C g)), (nI (ad_M g)), f_hasCurrent, f_compiled, (nI n), f_count, f_errPos, f_depth, f_lastViable, a_altRule, a_altStart, a_altLen, a_sym, a_tok, a_nSym, a_nAlt, a_nPar, a_nStart, a_nEnd, a_nAmb, a_ends, a_pre, a_flag, a_beg, a_reach, a_stNode, a_stAlt, a_stNext) (nI r) (nI p) := by
  have hC := h.1.1
  refine pk_loop (fun k i x => wY_ruleEnds_5 post (nI r) (nI p) f_tokenLimit f_nodeLimit (nI (ad_C g)) (nI (ad_M g)) f_hasCurrent f_compiled (nI n) f_count f_errPos f_depth f_lastViable a_altRule a_altStart a_altLen a_sym a_tok a_nSym a_nAlt a_nPar a_nStart a_nEnd a_nAmb a_ends a_pre a_flag a_beg a_reach a_stNode a_stAlt a_stNext k x (nI i)) (fun i x => x = ad_ro (ad_ru g) r (fun a => ad_ae n (ad_cY tk n a_ends) (ad_sy g) (ad_st g a) (ad_ln g a) ((1 : Int32) <<< (nI p &&& 31))) i) (ad_C g) 0 _ (by omega) rfl ?_ ?_
  · intro k x hx
    subst hx
    exact br_t (nI_le (by omega) (by omega)) hp
  · intro k i x hi' hx ih
    subst hx
    have hnext := ih _ rfl
    obtain ⟨e1, e2, e3, hin, h8, h48, h16⟩ := ad_hY_a h hi'
    refine br_f (nI_ge (by omega) (by omega)) ⟨hin, ?_⟩
    rw [e1]
    refine pk_eq (ad_ru g i) r (fun e => ?_) (fun e => ?_)
    · refine ay_ae h hi hi' (nm_r (if_pos e).symm (nm_r (nI_1 i) hnext))
    · refine nm_r (nI_1 i) ?_
      have e2 : ad_ro (ad_ru g) r (fun a => ad_ae n (ad_cY tk n a_ends) (ad_sy g) (ad_st g a) (ad_ln g a) ((1 : Int32) <<< (nI p &&& 31))) (i + 1) = ad_ro (ad_ru g) r (fun a => ad_ae n (ad_cY tk n a_ends) (ad_sy g) (ad_st g a) (ad_ln g a) ((1 : Int32) <<< (nI p &&& 31))) i := if_neg e
      rw [e2] at hnext
      exact hnext
def ad_eF (g : ad_G) (tk : Nat → Nat) (n : Nat) (en : Nat → Int32) (t q : Nat) : Prop := ∃ a, a < ad_C g ∧ ad_ru g a = t / 13 ∧ ad_ch (ad_cE n (ad_cY tk n en)) (ad_sy g) (ad_st g a) (ad_ln g a) (t % 13) q
def ad_eS (g : ad_G) (tk : Nat → Nat) (n : Nat) (t q : Nat) : Prop := ad_LR g tk n (t / 13) (t % 13) q
theorem ad_eS_ys {en : Nat → Int32} (hn : n ≤ 12) (h : ad_wS n (ad_eS g tk n) en) : ad_ys g tk n en := by
  intro r p q hr hp hb
  have := h (r * 13 + p) q (by omega) (by omega) hb
  unfold ad_eS at this
  rw [show (r * 13 + p) / 13 = r by omega, show (r * 13 + p) % 13 = p by omega] at this
  exact this
theorem ay_ce {post : SY → Prop} (h : ad_hY g a_altRule a_altStart a_altLen a_sym) (hi : ad_hI tk n a_tok) (hp : ∀ en, ad_ex g tk n (ad_cY tk n en) → post (f_tokenLimit, f_nodeLimit, (nI (ad_C g)), (nI (ad_M g)), f_hasCurrent, f_compiled, (nI n), f_count, f_errPos, f_depth, f_lastViable, a_altRule, a_altStart, a_altLen, a_sym, a_tok, a_nSym, a_nAlt, a_nPar, a_nStart, a_nEnd, a_nAmb, en, a_pre, a_flag, a_beg, a_reach, a_stNode, a_stAlt, a_stNext)) : wpY_computeEnds post (f_tokenLimit, f_nodeLimit, (nI (ad_C g)), (nI (ad_M g)), f_hasCurrent, f_compiled, (nI n), f_count, f_errPos, f_depth, f_lastViable, a_altRule, a_altStart, a_altLen, a_sym, a_tok, a_nSym, a_nAlt, a_nPar, a_nStart, a_nEnd, a_nAmb, a_ends, a_pre, a_flag, a_beg, a_reach, a_stNode, a_stAlt, a_stNext) := by
  have hn := hi.1
  have hq12 : ∀ t q, ad_eS g tk n t q → q ≤ 12 := fun t q hq => Nat.le_trans (ad_LR_le hq).2.1 hn
  refine pk_loop (fun k i en => wY_computeEnds_2 post f_tokenLimit f_nodeLimit (nI (ad_C g)) (nI (ad_M g)) f_hasCurrent f_compiled (nI n) f_count f_errPos f_depth f_lastViable k (nI i) a_altRule a_altStart a_altLen a_sym a_tok a_nSym a_nAlt a_nPar a_nStart a_nEnd a_nAmb en a_pre a_flag a_beg a_reach a_stNode a_stAlt a_stNext) (fun i en => ∀ t, t < i → en t = 0) 104 0 a_ends (by omega) (fun j hj => absurd hj (Nat.not_lt_zero j)) ?_ ?_
  · intro k en hen
    refine br_t (by decide) ?_
    refine pk_loop (fun k j en => wY_computeEnds_23 post f_tokenLimit f_nodeLimit (nI (ad_C g)) (nI (ad_M g)) f_hasCurrent f_compiled (nI n) f_count f_errPos f_depth f_lastViable k (nI j) a_altRule a_altStart a_altLen a_sym a_tok a_nSym a_nAlt a_nPar a_nStart a_nEnd a_nAmb en a_pre a_flag a_beg a_reach a_stNode a_stAlt a_stNext) (fun j en => ad_wS n (ad_eS g tk n) en ∧ j ≤ ad_mu en 1352) 1400 0 en (by omega) ⟨fun t q ht _ hb => ?_, by omega⟩ ?_ ?_
    · rw [hen t ht, b_0] at hb
      exact (nomatch hb)
    · intro k en hen
      have := ad_mu_le en 1352
      have := hen.2
      omega
    · intro k j en hj hen ih
      refine br_f (nI_ge (b := 1400) hj (by decide)) ?_
      refine lp3 (fun k' i ch en => wY_computeEnds_34 post (wY_computeEnds_23 post f_tokenLimit f_nodeLimit (nI (ad_C g)) (nI (ad_M g)) f_hasCurrent f_compiled (nI n) f_count f_errPos f_depth f_lastViable k) (nI j) f_tokenLimit f_nodeLimit (nI (ad_C g)) (nI (ad_M g)) f_hasCurrent f_compiled (nI n) f_count f_errPos f_depth f_lastViable k' ch (nI i) a_altRule a_altStart a_altLen a_sym a_tok a_nSym a_nAlt a_nPar a_nStart a_nEnd a_nAmb en a_pre a_flag a_beg a_reach a_stNode a_stAlt a_stNext) (fun i ch en => i ≤ 104 ∧ ad_sw n (ad_eF g tk n) (ad_eS g tk n) j ch i en) (fun i _ _ => 104 - i) ?_ 0 0 en ⟨by omega, hen.1, Or.inl ⟨rfl, fun t ht => absurd ht (Nat.not_lt_zero t), hen.2⟩⟩
      intro k' i ch en ⟨hi4, hsw⟩ ih'
      by_cases he : i = 104
      · subst he
        refine br_t (by decide) ?_
        rcases hsw.2 with ⟨z1, z2, z3⟩ | ⟨z1, z2⟩
        · refine br_t z1 (hp en (ad_y_ex h.1 (by omega) (ad_eS_ys hn hsw.1) fun r p hr hpn a q ha hra hch => ?_))
          refine z2 (r * 13 + p) (by omega) (by omega) q ⟨a, ha, by omega, ?_⟩
          rw [show (r * 13 + p) % 13 = p by omega]
          exact hch
        · subst z1
          exact br_f (by decide) (nm_r (nI_1 j) (ih en ⟨hsw.1, z2⟩))
      · have hi' : i < 104 := by omega
        have e1 : nI i / 13 = nI (i / 13) := pk_div (d := 13) (by omega) (by decide) (by decide)
        have e2 : nI i - nI i / 13 * 13 = nI (i % 13) := pk_rem (d := 13) (by omega) (by decide) (by decide)
        have hin : vp_in (nI i) 104 := vp_in_nI hi' (by omega)
        refine br_f (nI_ge (b := 104) hi' (by decide)) ⟨by decide, ?_⟩
        rw [e2, e1]
        refine pk_le (i % 13) n (fun z => ⟨by decide, by decide, ?_⟩) (fun z => nm_r (nI_1 i) (ih' (i + 1) ch en ⟨by omega, ad_sw_skip hsw fun y => absurd y (by omega)⟩ (by omega)))
        refine ay_re h hi (by omega) ⟨hin, nm_e ⟨hin, ?_⟩⟩
        rw [nI_clamp (by omega)]
        have hvb : ∀ q, bt (ad_ro (ad_ru g) (i / 13) (fun a => ad_ae n (ad_cY tk n en) (ad_sy g) (ad_st g a) (ad_ln g a) ((1 : Int32) <<< (nI (i % 13) &&& 31))) (ad_C g)) q = true ↔ ad_eF g tk n en i q := by
          intro q
          rw [ad_ro_b]
          constructor
          · intro ⟨a, y1, y2, y3⟩
            exact ⟨a, y1, y2, (ad_ae_1 _ _ _ _ _ (by omega) q).mp y3⟩
          · intro ⟨a, y1, y2, y3⟩
            exact ⟨a, y1, y2, (ad_ae_1 _ _ _ _ _ (by omega) q).mpr y3⟩
        generalize ad_ro (ad_ru g) (i / 13) (fun a => ad_ae n (ad_cY tk n en) (ad_sy g) (ad_st g a) (ad_ln g a) ((1 : Int32) <<< (nI (i % 13) &&& 31))) (ad_C g) = v at hvb ⊢
        by_cases hz : (v ||| en i) = en i
        · exact br_t hz (nm_r (nI_1 i) (ih' (i + 1) ch en ⟨by omega, ad_sw_same hsw (fun q hq => (hvb q).mpr hq) hz⟩ (by omega)))
        · refine br_f hz ⟨hin, nm_e (nm_r (nI_1 i) (ih' (i + 1) 1 _ ⟨by omega, ad_sw_new hq12 hsw hi' (fun q hq => ?_) z hz⟩ (by omega)))⟩
          obtain ⟨a, y1, y2, y3⟩ := (hvb q).mp hq
          show ad_LR g tk n (i / 13) (i % 13) q
          rw [← y2]
          exact ad_y_ch h.1 (by omega) (ad_eS_ys hn hsw.1) y1 z y3
  · intro k i en hi' hen ih
    refine br_f (nI_ge (b := 104) hi' (by decide)) ⟨vp_in_nI hi' (by omega), ?_⟩
    rw [nI_clamp (by omega)]
    refine nm_e (nm_r (nI_1 i) (ih _ ?_))
    intro t ht
    by_cases e : t = i
    · subst e; exact pk_us
    · rw [pk_un e]; exact hen t (by omega)
end
end
section
/-! ===== the reference: pre ===== -/
def ad_cP2 (tk : Nat → Nat) (n : Nat) (pr : Nat → Int32) (s p : Nat) : Int32 :=
  if s < 16 then (if p < n ∧ tk p = s then ((1 : Int32) <<< (nI p &&& 31)) ||| ((1 : Int32) <<< (nI (p + 1) &&& 31)) else (1 : Int32) <<< (nI p &&& 31)) else pr ((s - 16) * 13 + p)
theorem ad_or_as (x y z : Int32) : ((x ||| y) ||| z) = (x ||| (y ||| z)) := ad_bext fun q => by
  rw [ad_orb, ad_orb, ad_orb, ad_orb]
  exact or_assoc
section
variable {f_tokenLimit f_nodeLimit f_altCount f_symCount f_hasCurrent f_compiled f_n f_count f_errPos f_depth f_lastViable : Int32} {a_altRule a_altStart a_altLen a_sym a_tok a_nSym a_nAlt a_nPar a_nStart a_nEnd a_nAmb a_ends a_pre a_flag a_beg a_reach a_stNode a_stAlt a_stNext : Nat → Int32}
variable {g : ad_G} {tk : Nat → Nat} {n : Nat}
theorem ay_ps {post : Int32 → Prop} {s : Nat} {m : Int32} (hi : ad_hI tk n a_tok) (hs : s < 24) (hp : post (ad_pa (ad_cP2 tk n a_pre s) m (n + 1))) : wpY_preStep post (f_tokenLimit, f_nodeLimit, (nI (ad_C g)), (nI (ad_M g)), f_hasCurrent, f_compiled, (nI n), f_count, f_errPos, f_depth, f_lastViable, a_altRule, a_altStart, a_altLen, a_sym, a_tok, a_nSym, a_nAlt, a_nPar, a_nStart, a_nEnd, a_nAmb, a_ends, a_pre, a_flag, a_beg, a_reach, a_stNode, a_stAlt, a_stNext) m (nI s) := by
  have hn := hi.1
  refine pk_loop (fun k i x => wY_preStep_5 post m (nI s) f_tokenLimit f_nodeLimit (nI (ad_C g)) (nI (ad_M g)) f_hasCurrent f_compiled (nI n) f_count f_errPos f_depth f_lastViable a_altRule a_altStart a_altLen a_sym a_tok a_nSym a_nAlt a_nPar a_nStart a_nEnd a_nAmb a_ends a_pre a_flag a_beg a_reach a_stNode a_stAlt a_stNext k x (nI i)) (fun i x => x = ad_pa (ad_cP2 tk n a_pre s) m i) (n + 1) 0 0 (by omega) rfl ?_ ?_
  · intro k x hx
    subst hx
    exact br_t (nI_lt (by omega) (by omega)) hp
  · intro k i x hi' hx ih
    subst hx
    have hnext := ih _ rfl
    refine br_f (nI_nlt (by omega) (by omega)) (ek_if (ad_has (by omega)) (fun hb => ?_) (fun hb => ?_))
    · have e : ad_pa (ad_cP2 tk n a_pre s) m i = ad_pa (ad_cP2 tk n a_pre s) m (i + 1) := (if_neg hb).symm
      rw [← e] at hnext
      exact nm_r (nI_1 i) hnext
    · have hb : bt m i = true := Classical.byContradiction hb
      have e : ad_pa (ad_cP2 tk n a_pre s) m (i + 1) = (ad_pa (ad_cP2 tk n a_pre s) m i ||| ad_cP2 tk n a_pre s i) := if_pos hb
      rw [e] at hnext
      refine pk_le 16 s (fun z => ?_) (fun z => nm_e ?_)
      · rw [ad_16 z, ad_13, nI_clamp (by omega)]
        rw [show ad_cP2 tk n a_pre s i = a_pre ((s - 16) * 13 + i) from if_neg (by omega)] at hnext
        exact ⟨vp_in_nI (by omega) (by omega), nm_e (nm_r (nI_1 i) hnext)⟩
      · refine pk_le n i (fun y => ?_) (fun y => ?_)
        · rw [show ad_cP2 tk n a_pre s i = (1 : Int32) <<< (nI i &&& 31) from (if_pos z).trans (if_neg (by omega))] at hnext
          exact nm_r (nI_1 i) hnext
        · obtain ⟨t1, t2⟩ := hi.2 i y
          refine ⟨vp_in_nI (by omega) (by omega), ?_⟩
          rw [nI_clamp (by omega), t2]
          refine pk_eq (tk i) s (fun x => ?_) (fun x => ?_)
          · rw [show ad_cP2 tk n a_pre s i = ((1 : Int32) <<< (nI i &&& 31)) ||| ((1 : Int32) <<< (nI (i + 1) &&& 31)) from (if_pos z).trans (if_pos ⟨y, x⟩), ← ad_or_as] at hnext
            rw [nI_1]
            exact nm_e (nm_e hnext)
          · rw [show ad_cP2 tk n a_pre s i = (1 : Int32) <<< (nI i &&& 31) from (if_pos z).trans (if_neg (fun w => x w.2))] at hnext
            exact nm_r (nI_1 i) hnext
/-- the bits of altPre after d symbols -/
def ad_apd (g : ad_G) (tk : Nat → Nat) (n : Nat) (pr : Nat → Int32) (a d p q : Nat) : Prop :=
  (∃ k, k ≤ d ∧ ad_at g tk n a k p q) ∨ (∃ k m, k < d ∧ ad_at g tk n a k p m ∧ 16 ≤ ad_sy g (ad_st g a + k) ∧ bt (pr ((ad_sy g (ad_st g a + k) - 16) * 13 + m)) q = true)
theorem ay_ap {post : Int32 → Prop} {a p : Nat} (h : ad_hY g a_altRule a_altStart a_altLen a_sym) (hi : ad_hI tk n a_tok) (hex : ad_ex g tk n (ad_cY tk n a_ends)) (ha : a < ad_C g) (hpn : p ≤ n) (hp : ∀ x, (∀ q, bt x q = true ↔ ad_ap g tk n a_pre a p q) → post x) : wpY_altPre post (f_tokenLimit, f_nodeLimit, (nI (ad_C g)), (nI (ad_M g)), f_hasCurrent, f_compiled, (nI n), f_count, f_errPos, f_depth, f_lastViable, a_altRule, a_altStart, a_altLen, a_sym, a_tok, a_nSym, a_nAlt, a_nPar, a_nStart, a_nEnd, a_nAmb, a_ends, a_pre, a_flag, a_beg, a_reach, a_stNode, a_stAlt, a_stNext) (nI a) (nI p) := by
  have hn := hi.1
  obtain ⟨e1, e2, e3, hin, h8, h48, h16⟩ := ad_hY_a h ha
  have hae : ∀ d q, d ≤ ad_ln g a → (bt (ad_ae n (ad_cY tk n a_ends) (ad_sy g) (ad_st g a) d ((1 : Int32) <<< (nI p &&& 31))) q = true ↔ ad_at g tk n a d p q) := by
    intro d q hd
    rw [ad_ae_1 _ _ _ _ _ (by omega)]
    exact ad_ex_ch h.1 hex ha (by omega) (by omega) p q
  refine nm_e ?_
  refine lp2 (fun k d x4 => wY_altPre_10 post (nI a) f_tokenLimit f_nodeLimit (nI (ad_C g)) (nI (ad_M g)) f_hasCurrent f_compiled (nI n) f_count f_errPos f_depth f_lastViable a_altRule a_altStart a_altLen a_sym a_tok a_nSym a_nAlt a_nPar a_nStart a_nEnd a_nAmb a_ends a_pre a_flag a_beg a_reach a_stNode a_stAlt a_stNext k (ad_ae n (ad_cY tk n a_ends) (ad_sy g) (ad_st g a) d ((1 : Int32) <<< (nI p &&& 31))) x4 (nI d)) (fun d x4 => d ≤ ad_ln g a ∧ ∀ q, bt x4 q = true ↔ ad_apd g tk n a_pre a d p q) (fun d _ => ad_ln g a - d) ?_ 0 _ ?_
  · intro k d x4 ⟨hdl, hx⟩ ih
    by_cases he : d = ad_ln g a
    · subst he
      refine ⟨hin, br_t ?_ (hp x4 hx)⟩
      rw [e3]
      exact nI_le (by omega) (by omega)
    · have hd : d < ad_ln g a := by omega
      obtain ⟨s1, s2, s3, s4⟩ := ad_hY_k h ha hd
      refine ⟨hin, br_f ?_ ⟨hin, s2, nm_r s1 ?_⟩⟩
      · rw [e3]
        exact nI_ge (by omega) (by omega)
      refine ay_ps hi s3 (nm_e (ay_ss hi s3 (nm_e (nm_r (nI_1 d) (ih (d + 1) _ ⟨by omega, fun q => ?_⟩ (by omega))))))
      have hm : bt (ad_pa (ad_cY tk n a_ends (ad_sy g (ad_st g a + d))) (ad_ae n (ad_cY tk n a_ends) (ad_sy g) (ad_st g a) d ((1 : Int32) <<< (nI p &&& 31))) (n + 1)) q = true ↔ ad_at g tk n a (d + 1) p q := hae (d + 1) q (by omega)
      rw [ad_orb, ad_orb, hx q, hm, ad_pa_b]
      constructor
      · intro y
        rcases y with (y | ⟨p', y1, y2, y3⟩) | y
        · rcases y with ⟨k, y1, y2⟩ | ⟨k, m, y1, y2⟩
          · exact Or.inl ⟨k, by omega, y2⟩
          · exact Or.inr ⟨k, m, by omega, y2⟩
        · have y2 := (hae d p' (by omega)).mp y2
          unfold ad_cP2 at y3
          by_cases z : ad_sy g (ad_st g a + d) < 16
          · rw [if_pos z] at y3
            by_cases c : p' < n ∧ tk p' = ad_sy g (ad_st g a + d)
            · rw [if_pos c, ad_orb, ad_bit (by omega), ad_bit (by omega)] at y3
              rcases y3 with y3 | y3
              · subst y3; exact Or.inl ⟨d, by omega, y2⟩
              · exact Or.inl ⟨d + 1, by omega, p', y2, Or.inl ⟨z, c.1, c.2, y3⟩⟩
            · rw [if_neg c, ad_bit (by omega)] at y3
              subst y3; exact Or.inl ⟨d, by omega, y2⟩
          · rw [if_neg z] at y3
            exact Or.inr ⟨d, p', by omega, y2, by omega, y3⟩
        · exact Or.inl ⟨d + 1, by omega, y⟩
      · intro y
        rcases y with ⟨k, y1, y2⟩ | ⟨k, m, y1, y2, y3, y4⟩
        · by_cases ek : k = d + 1
          · subst ek; exact Or.inr y2
          · exact Or.inl (Or.inl (Or.inl ⟨k, by omega, y2⟩))
        · by_cases ek : k = d
          · subst ek
            refine Or.inl (Or.inr ⟨m, ?_, (hae k m (by omega)).mpr y2, ?_⟩)
            · have := (ad_chE_le hpn y2).2
              omega
            · unfold ad_cP2
              rw [if_neg (by omega)]
              exact y4
          · exact Or.inl (Or.inl (Or.inr ⟨k, m, by omega, y2, y3, y4⟩))
  · refine ⟨by omega, fun q => ?_⟩
    rw [ad_bit (by omega)]
    constructor
    · intro y
      exact Or.inl ⟨0, by omega, y.symm⟩
    · intro y
      rcases y with ⟨k, y1, y2⟩ | ⟨k, m, y1, y2⟩
      · have ek : k = 0 := by omega
        subst ek
        have e : p = q := y2
        exact e.symm
      · exact absurd y1 (Nat.not_lt_zero k)
theorem ay_rp {post : Int32 → Prop} {r p : Nat} (h : ad_hY g a_altRule a_altStart a_altLen a_sym) (hi : ad_hI tk n a_tok) (hex : ad_ex g tk n (ad_cY tk n a_ends)) (hr : r < 8) (hpn : p ≤ n) (hp : ∀ x, (∀ q, bt x q = true ↔ ∃ a, a < ad_C g ∧ ad_ru g a = r ∧ ad_ap g tk n a_pre a p q) → post x) : wpY_rulePre post (f_tokenLimit, f_nodeLimit, (nI (ad_C g)), (nI (ad_M g)), f_hasCurrent, f_compiled, (nI n), f_count, f_errPos, f_depth, f_lastViable, a_altRule, a_altStart, a_altLen, a_sym, a_tok, a_nSym, a_nAlt, a_nPar, a_nStart, a_nEnd, a_nAmb, a_ends, a_pre, a_flag, a_beg, a_reach, a_stNode, a_stAlt, a_stNext) (nI r) (nI p) := by
  have hC := h.1.1
  refine pk_loop (fun k i x => wY_rulePre_5 post (nI r) (nI p) f_tokenLimit f_nodeLimit (nI (ad_C g)) (nI (ad_M g)) f_hasCurrent f_compiled (nI n) f_count f_errPos f_depth f_lastViable a_altRule a_altStart a_altLen a_sym a_tok a_nSym a_nAlt a_nPar a_nStart a_nEnd a_nAmb a_ends a_pre a_flag a_beg a_reach a_stNode a_stAlt a_stNext k x (nI i)) (fun i x => ∀ q, bt x q = true ↔ ∃ a, a < i ∧ ad_ru g a = r ∧ ad_ap g tk n a_pre a p q) (ad_C g) 0 0 (by omega) (fun q => by rw [b_0]; exact ⟨fun z => (nomatch z), fun ⟨k, hk, _⟩ => absurd hk (Nat.not_lt_zero k)⟩) ?_ ?_
  · intro k x hx
    exact br_t (nI_le (by omega) (by omega)) (hp x hx)
  · intro k i x hi' hx ih
    obtain ⟨e1, e2, e3, hin, h8, h48, h16⟩ := ad_hY_a h hi'
    refine br_f (nI_ge (by omega) (by omega)) ⟨hin, ?_⟩
    rw [e1]
    refine pk_eq (ad_ru g i) r (fun e => ?_) (fun e => ?_)
    · refine ay_ap h hi hex hi' hpn fun y hy => nm_e (nm_r (nI_1 i) (ih _ fun q => ?_))
      rw [ad_orb, hx q, hy q]
      constructor
      · intro z
        rcases z with ⟨a, z1, z2⟩ | z
        · exact ⟨a, by omega, z2⟩
        · exact ⟨i, by omega, e, z⟩
      · intro ⟨a, z1, z2, z3⟩
        by_cases ea : a = i
        · subst ea; exact Or.inr z3
        · exact Or.inl ⟨a, by omega, z2, z3⟩
    · refine nm_r (nI_1 i) (ih x fun q => ?_)
      rw [hx q]
      constructor
      · intro ⟨a, z1, z2⟩
        exact ⟨a, by omega, z2⟩
      · intro ⟨a, z1, z2, z3⟩
        by_cases ea : a = i
        · subst ea; exact absurd z2 e
        · exact ⟨a, by omega, z2, z3⟩
def ad_pF (g : ad_G) (tk : Nat → Nat) (n : Nat) (pr : Nat → Int32) (t q : Nat) : Prop := ∃ a, a < ad_C g ∧ ad_ru g a = t / 13 ∧ ad_ap g tk n pr a (t % 13) q
def ad_pS (g : ad_G) (tk : Nat → Nat) (n : Nat) (t q : Nat) : Prop := ad_PR g tk n (t / 13) (t % 13) q
theorem ad_pS_ps {pr : Nat → Int32} (hn : n ≤ 12) (h : ad_wS n (ad_pS g tk n) pr) : ad_ps g tk n pr := by
  intro r p q hr hp hb
  have := h (r * 13 + p) q (by omega) (by omega) hb
  unfold ad_pS at this
  rw [show (r * 13 + p) / 13 = r by omega, show (r * 13 + p) % 13 = p by omega] at this
  exact this
theorem ay_cp {post : SY → Prop} (h : ad_hY g a_altRule a_altStart a_altLen a_sym) (hi : ad_hI tk n a_tok) (hex : ad_ex g tk n (ad_cY tk n a_ends)) (hp : ∀ pr, (∀ q, bt (pr 0) q = true ↔ ad_PR g tk n 0 0 q) → post (f_tokenLimit, f_nodeLimit, (nI (ad_C g)), (nI (ad_M g)), f_hasCurrent, f_compiled, (nI n), f_count, f_errPos, f_depth, f_lastViable, a_altRule, a_altStart, a_altLen, a_sym, a_tok, a_nSym, a_nAlt, a_nPar, a_nStart, a_nEnd, a_nAmb, a_ends, pr, a_flag, a_beg, a_reach, a_stNode, a_stAlt, a_stNext)) : wpY_computePre post (f_tokenLimit, f_nodeLimit, (nI (ad_C g)), (nI (ad_M g)), f_hasCurrent, f_compiled, (nI n), f_count, f_errPos, f_depth, f_lastViable, a_altRule, a_altStart, a_altLen, a_sym, a_tok, a_nSym, a_nAlt, a_nPar, a_nStart, a_nEnd, a_nAmb, a_ends, a_pre, a_flag, a_beg, a_reach, a_stNode, a_stAlt, a_stNext) := by
  have hn := hi.1
  have hq12 : ∀ t q, ad_pS g tk n t q → q ≤ 12 := fun t q hq => Nat.le_trans (ad_PR_le hq) hn
  refine pk_loop (fun k i en => wY_computePre_2 post f_tokenLimit f_nodeLimit (nI (ad_C g)) (nI (ad_M g)) f_hasCurrent f_compiled (nI n) f_count f_errPos f_depth f_lastViable k (nI i) a_altRule a_altStart a_altLen a_sym a_tok a_nSym a_nAlt a_nPar a_nStart a_nEnd a_nAmb a_ends en a_flag a_beg a_reach a_stNode a_stAlt a_stNext) (fun i en => ∀ t, t < i → en t = 0) 104 0 a_pre (by omega) (fun j hj => absurd hj (Nat.not_lt_zero j)) ?_ ?_
  · intro k en hen
    refine br_t (by decide) ?_
    refine pk_loop (fun k j en => wY_computePre_23 post f_tokenLimit f_nodeLimit (nI (ad_C g)) (nI (ad_M g)) f_hasCurrent f_compiled (nI n) f_count f_errPos f_depth f_lastViable k (nI j) a_altRule a_altStart a_altLen a_sym a_tok a_nSym a_nAlt a_nPar a_nStart a_nEnd a_nAmb a_ends en a_flag a_beg a_reach a_stNode a_stAlt a_stNext) (fun j en => ad_wS n (ad_pS g tk n) en ∧ j ≤ ad_mu en 1352) 1400 0 en (by omega) ⟨fun t q ht _ hb => ?_, by omega⟩ ?_ ?_
    · rw [hen t ht, b_0] at hb
      exact (nomatch hb)
    · intro k en hen
      have := ad_mu_le en 1352
      have := hen.2
      omega
    · intro k j en hj hen ih
      refine br_f (nI_ge (b := 1400) hj (by decide)) ?_
      refine lp3 (fun k' i ch en => wY_computePre_34 post (wY_computePre_23 post f_tokenLimit f_nodeLimit (nI (ad_C g)) (nI (ad_M g)) f_hasCurrent f_compiled (nI n) f_count f_errPos f_depth f_lastViable k) (nI j) f_tokenLimit f_nodeLimit (nI (ad_C g)) (nI (ad_M g)) f_hasCurrent f_compiled (nI n) f_count f_errPos f_depth f_lastViable k' ch (nI i) a_altRule a_altStart a_altLen a_sym a_tok a_nSym a_nAlt a_nPar a_nStart a_nEnd a_nAmb a_ends en a_flag a_beg a_reach a_stNode a_stAlt a_stNext) (fun i ch en => i ≤ 104 ∧ ad_sw n (ad_pF g tk n) (ad_pS g tk n) j ch i en) (fun i _ _ => 104 - i) ?_ 0 0 en ⟨by omega, hen.1, Or.inl ⟨rfl, fun t ht => absurd ht (Nat.not_lt_zero t), hen.2⟩⟩
      intro k' i ch en ⟨hi4, hsw⟩ ih'
      by_cases he : i = 104
      · subst he
        refine br_t (by decide) ?_
        rcases hsw.2 with ⟨z1, z2, z3⟩ | ⟨z1, z2⟩
        · refine br_t z1 (hp en (ad_p_end h.1 (ad_pS_ps hn hsw.1) fun r p hr hpn a q ha hra hap => ?_))
          refine z2 (r * 13 + p) (by omega) (by omega) q ⟨a, ha, by omega, ?_⟩
          rw [show (r * 13 + p) % 13 = p by omega]
          exact hap
        · subst z1
          exact br_f (by decide) (nm_r (nI_1 j) (ih en ⟨hsw.1, z2⟩))
      · have hi' : i < 104 := by omega
        have e1 : nI i / 13 = nI (i / 13) := pk_div (d := 13) (by omega) (by decide) (by decide)
        have e2 : nI i - nI i / 13 * 13 = nI (i % 13) := pk_rem (d := 13) (by omega) (by decide) (by decide)
        have hin : vp_in (nI i) 104 := vp_in_nI hi' (by omega)
        refine br_f (nI_ge (b := 104) hi' (by decide)) ⟨by decide, ?_⟩
        rw [e2, e1]
        refine pk_le (i % 13) n (fun z => ⟨by decide, by decide, ?_⟩) (fun z => nm_r (nI_1 i) (ih' (i + 1) ch en ⟨by omega, ad_sw_skip hsw fun y => absurd y (by omega)⟩ (by omega)))
        refine ay_rp h hi hex (by omega) z fun v hvb => ⟨hin, nm_e ⟨hin, ?_⟩⟩
        rw [nI_clamp (by omega)]
        by_cases hz : (v ||| en i) = en i
        · exact br_t hz (nm_r (nI_1 i) (ih' (i + 1) ch en ⟨by omega, ad_sw_same hsw (fun q hq => (hvb q).mpr hq) hz⟩ (by omega)))
        · refine br_f hz ⟨hin, nm_e (nm_r (nI_1 i) (ih' (i + 1) 1 _ ⟨by omega, ad_sw_new hq12 hsw hi' (fun q hq => ?_) z hz⟩ (by omega)))⟩
          obtain ⟨a, y1, y2, y3⟩ := (hvb q).mp hq
          show ad_PR g tk n (i / 13) (i % 13) q
          rw [← y2]
          exact ad_p_ap h.1 (ad_pS_ps hn hsw.1) y1 z y3
  · intro k i en hi' hen ih
    refine br_f (nI_ge (b := 104) hi' (by decide)) ⟨vp_in_nI hi' (by omega), ?_⟩
    rw [nI_clamp (by omega)]
    refine nm_e (nm_r (nI_1 i) (ih _ ?_))
    intro t ht
    by_cases e : t = i
    · subst e; exact pk_us
    · rw [pk_un e]; exact hen t (by omega)
theorem ay_mx {post : Int32 → SY → Prop} (hn : n ≤ 12) (hp : post 1 (f_tokenLimit, f_nodeLimit, (nI (ad_C g)), (nI (ad_M g)), f_hasCurrent, f_compiled, (nI n), 0, (nI (ad_mx (fun i => bt (a_pre 0) i) (n + 1))), f_depth, f_lastViable, a_altRule, a_altStart, a_altLen, a_sym, a_tok, a_nSym, a_nAlt, a_nPar, a_nStart, a_nEnd, a_nAmb, a_ends, a_pre, a_flag, a_beg, a_reach, a_stNode, a_stAlt, a_stNext)) : ∃ k, wY_parse_49 post f_tokenLimit f_nodeLimit (nI (ad_C g)) (nI (ad_M g)) f_hasCurrent f_compiled (nI n) f_count f_errPos f_depth f_lastViable a_altRule a_altStart a_altLen a_sym a_tok a_nSym a_nAlt a_nPar a_nStart a_nEnd a_nAmb a_ends a_pre a_flag a_beg a_reach a_stNode a_stAlt a_stNext k 0 0 := by
  refine pk_loop (fun k i x => wY_parse_49 post f_tokenLimit f_nodeLimit (nI (ad_C g)) (nI (ad_M g)) f_hasCurrent f_compiled (nI n) f_count f_errPos f_depth f_lastViable a_altRule a_altStart a_altLen a_sym a_tok a_nSym a_nAlt a_nPar a_nStart a_nEnd a_nAmb a_ends a_pre a_flag a_beg a_reach a_stNode a_stAlt a_stNext k x (nI i)) (fun i x => x = nI (ad_mx (fun i => bt (a_pre 0) i) i)) (n + 1) 0 0 (by omega) rfl ?_ ?_
  · intro k x hx
    subst hx
    exact br_t (nI_lt (by omega) (by omega)) hp
  · intro k i x hi hx ih
    subst hx
    have hnext := ih _ rfl
    refine br_f (nI_nlt (by omega) (by omega)) (ek_if (ad_has (by omega)) (fun hb => ?_) (fun hb => ?_))
    · have e : ad_mx (fun i => bt (a_pre 0) i) (i + 1) = ad_mx (fun i => bt (a_pre 0) i) i := if_neg hb
      rw [e] at hnext
      exact nm_r (nI_1 i) hnext
    · have hb : bt (a_pre 0) i = true := Classical.byContradiction hb
      have e : ad_mx (fun i => bt (a_pre 0) i) (i + 1) = i := if_pos hb
      rw [e] at hnext
      exact nm_r (nI_1 i) hnext
end
end
section
/-! ===== choosing an alternative ===== -/
/-- what the reference's frames hold -/
def ad_yF (g : ad_G) (d : Nat) (sa sn : Nat → Nat) (yA yX : Nat → Int32) : Prop := ∀ f, f < d → yA f = nI (sa f) ∧ yX f = nI (sn f) ∧ sa f < ad_C g ∧ sn f ≤ ad_ln g (sa f)
section
variable {f_tokenLimit f_nodeLimit f_altCount f_symCount f_hasCurrent f_compiled f_n f_count f_errPos f_depth f_lastViable : Int32} {a_altRule a_altStart a_altLen a_sym a_tok a_nSym a_nAlt a_nPar a_nStart a_nEnd a_nAmb a_ends a_pre a_flag a_beg a_reach a_stNode a_stAlt a_stNext : Nat → Int32}
variable {g : ad_G} {tk : Nat → Nat} {n : Nat}
theorem ay_cm1 {post : Int32 → Prop} {J : Int32 → Int32 → Prop} {m x2 : Int32} {a s0 : Nat} (h : ad_hY g a_altRule a_altStart a_altLen a_sym) (hi : ad_hI tk n a_tok) (ha : a < ad_C g) (hs0 : s0 ≤ ad_ln g a) (hp : J (ad_ae n (ad_cY tk n a_ends) (ad_sy g) (ad_st g a + s0) (ad_ln g a - s0) m) (x2 + (-1))) : ∃ k, wY_contMask_26 post J x2 (nI a) f_tokenLimit f_nodeLimit (nI (ad_C g)) (nI (ad_M g)) f_hasCurrent f_compiled (nI n) f_count f_errPos f_depth f_lastViable a_altRule a_altStart a_altLen a_sym a_tok a_nSym a_nAlt a_nPar a_nStart a_nEnd a_nAmb a_ends a_pre a_flag a_beg a_reach a_stNode a_stAlt a_stNext k m (nI s0) := by
  obtain ⟨e1, e2, e3, hin, h8, h48, h16⟩ := ad_hY_a h ha
  refine pk_loop (fun k d x => wY_contMask_26 post J x2 (nI a) f_tokenLimit f_nodeLimit (nI (ad_C g)) (nI (ad_M g)) f_hasCurrent f_compiled (nI n) f_count f_errPos f_depth f_lastViable a_altRule a_altStart a_altLen a_sym a_tok a_nSym a_nAlt a_nPar a_nStart a_nEnd a_nAmb a_ends a_pre a_flag a_beg a_reach a_stNode a_stAlt a_stNext k x (nI (s0 + d))) (fun d x => x = ad_ae n (ad_cY tk n a_ends) (ad_sy g) (ad_st g a + s0) d m) (ad_ln g a - s0) 0 _ (by omega) rfl ?_ ?_
  · intro k x hx
    subst hx
    refine ⟨hin, br_t ?_ (nm_e hp)⟩
    rw [e3]
    exact nI_le (by omega) (by omega)
  · intro k d x hd hx ih
    subst hx
    have hnext := ih _ rfl
    obtain ⟨s1, s2, s3, s4⟩ := ad_hY_k h ha (k := s0 + d) (by omega)
    refine ⟨hin, br_f ?_ ⟨hin, s2, ?_⟩⟩
    · rw [e3]
      exact nI_ge (by omega) (by omega)
    · rw [s1]
      refine ay_ss hi s3 (nm_r (nI_1 _) ?_)
      rw [← Nat.add_assoc (ad_st g a) s0 d]
      exact hnext
theorem ay_cm {post : Int32 → Prop} {m : Int32} {d : Nat} {sa sn : Nat → Nat} (h : ad_hY g a_altRule a_altStart a_altLen a_sym) (hi : ad_hI tk n a_tok) (hd : d ≤ 64) (hF : ad_yF g d sa sn a_stAlt a_stNext) (hp : post (ad_cm g n (ad_cY tk n a_ends) sa sn d m)) : wpY_contMask post (f_tokenLimit, f_nodeLimit, (nI (ad_C g)), (nI (ad_M g)), f_hasCurrent, f_compiled, (nI n), f_count, f_errPos, (nI d), f_lastViable, a_altRule, a_altStart, a_altLen, a_sym, a_tok, a_nSym, a_nAlt, a_nPar, a_nStart, a_nEnd, a_nAmb, a_ends, a_pre, a_flag, a_beg, a_reach, a_stNode, a_stAlt, a_stNext) m := by
  refine nm_e ⟨d + 1, ?_⟩
  refine pk_loopD (fun k f x => wY_contMask_7 post f_tokenLimit f_nodeLimit (nI (ad_C g)) (nI (ad_M g)) f_hasCurrent f_compiled (nI n) f_count f_errPos (nI d) f_lastViable a_altRule a_altStart a_altLen a_sym a_tok a_nSym a_nAlt a_nPar a_nStart a_nEnd a_nAmb a_ends a_pre a_flag a_beg a_reach a_stNode a_stAlt a_stNext k x (nI f - 1)) (fun f x => f ≤ d ∧ ad_cm g n (ad_cY tk n a_ends) sa sn f x = ad_cm g n (ad_cY tk n a_ends) sa sn d m) ?_ ?_ d m ⟨Nat.le_refl d, rfl⟩
  · intro k x ⟨_, hx⟩
    refine br_t (by decide) ?_
    have e : x = ad_cm g n (ad_cY tk n a_ends) sa sn d m := hx
    rw [e]
    exact hp
  · intro k f x ⟨hf, hx⟩ ih
    show wY_contMask_7 post f_tokenLimit f_nodeLimit (nI (ad_C g)) (nI (ad_M g)) f_hasCurrent f_compiled (nI n) f_count f_errPos (nI d) f_lastViable a_altRule a_altStart a_altLen a_sym a_tok a_nSym a_nAlt a_nPar a_nStart a_nEnd a_nAmb a_ends a_pre a_flag a_beg a_reach a_stNode a_stAlt a_stNext (k + 1) x (nI (f + 1) - 1)
    rw [nI_pred]
    obtain ⟨a1, a2, a3, a4⟩ := hF f (by omega)
    have hin : vp_in (nI f) 64 := vp_in_nI (by omega) (by omega)
    have ef : (nI f).toNatClampNeg = f := nI_clamp (by omega)
    refine br_f (nI_pos (by omega)) ⟨hin, nm_r (show a_stAlt (nI f).toNatClampNeg = nI (sa f) by rw [ef]; exact a1) ⟨hin, nm_r (show a_stNext (nI f).toNatClampNeg = nI (sn f) by rw [ef]; exact a2) ?_⟩⟩
    refine ay_cm1 h hi a3 a4 ?_
    rw [ad_m1s]
    exact ih _ ⟨by omega, hx⟩
/-- whether the reference may take alternative a of rule r at p -/
def ad_vY (g : ad_G) (n : Nat) (col : Nat → Nat → Int32) (sa sn : Nat → Nat) (d r p a : Nat) : Bool :=
  decide (ad_ru g a = r) && bt (ad_cm g n col sa sn d (ad_ae n col (ad_sy g) (ad_st g a) (ad_ln g a) ((1 : Int32) <<< (nI p &&& 31)))) n
theorem ad_cn_s1 {P : Nat → Bool} {a : Nat} (h : P a = true) : ad_cn P (a + 1) = ad_cn P a + 1 := by
  show ad_cn P a + (if P a = true then 1 else 0) = _
  rw [if_pos h]
theorem ad_cn_s0 {P : Nat → Bool} {a : Nat} (h : ¬ P a = true) : ad_cn P (a + 1) = ad_cn P a := by
  show ad_cn P a + (if P a = true then 1 else 0) = _
  rw [if_neg h]
  rfl
theorem ay_ch {post : Int32 → SY → Prop} {r p d b : Nat} {sa sn : Nat → Nat} (h : ad_hY g a_altRule a_altStart a_altLen a_sym) (hi : ad_hI tk n a_tok) (hd : d ≤ 64) (hF : ad_yF g d sa sn a_stAlt a_stNext) (hr : r < 8) (hb : b < ad_C g) (hv : ad_vY g n (ad_cY tk n a_ends) sa sn d r p b = true) (hl : ∀ b', b' < b → ¬ ad_vY g n (ad_cY tk n a_ends) sa sn d r p b' = true)
    (hp : post (nI b) (f_tokenLimit, f_nodeLimit, (nI (ad_C g)), (nI (ad_M g)), f_hasCurrent, f_compiled, (nI n), f_count, f_errPos, (nI d), (nI (ad_cn (ad_vY g n (ad_cY tk n a_ends) sa sn d r p) (ad_C g))), a_altRule, a_altStart, a_altLen, a_sym, a_tok, a_nSym, a_nAlt, a_nPar, a_nStart, a_nEnd, a_nAmb, a_ends, a_pre, a_flag, a_beg, a_reach, a_stNode, a_stAlt, a_stNext)) : wpY_choose post (f_tokenLimit, f_nodeLimit, (nI (ad_C g)), (nI (ad_M g)), f_hasCurrent, f_compiled, (nI n), f_count, f_errPos, (nI d), f_lastViable, a_altRule, a_altStart, a_altLen, a_sym, a_tok, a_nSym, a_nAlt, a_nPar, a_nStart, a_nEnd, a_nAmb, a_ends, a_pre, a_flag, a_beg, a_reach, a_stNode, a_stAlt, a_stNext) (nI r) (nI p) := by
  have hC := h.1.1
  have hn := hi.1
  refine pk_loop (fun k a x => wY_choose_10 post (nI r) (nI p) f_tokenLimit f_nodeLimit (nI (ad_C g)) (nI (ad_M g)) f_hasCurrent f_compiled (nI n) f_count f_errPos (nI d) a_altRule a_altStart a_altLen a_sym a_tok a_nSym a_nAlt a_nPar a_nStart a_nEnd a_nAmb a_ends a_pre a_flag a_beg a_reach a_stNode a_stAlt a_stNext k x (nI a) (nI (ad_cn (ad_vY g n (ad_cY tk n a_ends) sa sn d r p) a))) (fun a x => x = if a ≤ b then -1 else nI b) (ad_C g) 0 (-1) (by omega) (if_pos (by omega)).symm ?_ ?_
  · intro k x hx
    rw [if_neg (by omega)] at hx
    subst hx
    exact br_t (nI_le (by omega) (by omega)) hp
  · intro k a x ha hx ih
    obtain ⟨e1, e2, e3, hin, h8, h48, h16⟩ := ad_hY_a h ha
    have hcn := ad_cn_le (ad_vY g n (ad_cY tk n a_ends) sa sn d r p) a
    refine br_f (nI_ge (by omega) (by omega)) ⟨hin, ?_⟩
    rw [e1]
    have hno : ¬ ad_vY g n (ad_cY tk n a_ends) sa sn d r p a = true → wY_choose_10 post (nI r) (nI p) f_tokenLimit f_nodeLimit (nI (ad_C g)) (nI (ad_M g)) f_hasCurrent f_compiled (nI n) f_count f_errPos (nI d) a_altRule a_altStart a_altLen a_sym a_tok a_nSym a_nAlt a_nPar a_nStart a_nEnd a_nAmb a_ends a_pre a_flag a_beg a_reach a_stNode a_stAlt a_stNext k x (nI (a + 1)) (nI (ad_cn (ad_vY g n (ad_cY tk n a_ends) sa sn d r p) a)) := by
      intro hna
      have hab : ¬ a = b := fun e => hna (by rw [e]; exact hv)
      have hnext := ih x (by rw [hx]; by_cases c : a ≤ b; · rw [if_pos c, if_pos (by omega)]
                             · rw [if_neg c, if_neg (by omega)])
      rw [ad_cn_s0 hna] at hnext
      exact hnext
    refine pk_eq (ad_ru g a) r (fun e => ?_) (fun e => ?_)
    · refine ay_ae h hi ha (ay_cm h hi hd hF (ek_if (ad_has (by omega)) (fun hz => ?_) (fun hz => ?_)))
      · refine nm_r (nI_1 a) (hno fun hva => ?_)
        unfold ad_vY at hva
        rw [Bool.and_eq_true] at hva
        exact hz hva.2
      · have hz : bt (ad_cm g n (ad_cY tk n a_ends) sa sn d (ad_ae n (ad_cY tk n a_ends) (ad_sy g) (ad_st g a) (ad_ln g a) ((1 : Int32) <<< (nI p &&& 31)))) n = true := Classical.byContradiction hz
        have hva : ad_vY g n (ad_cY tk n a_ends) sa sn d r p a = true := by
          unfold ad_vY
          rw [Bool.and_eq_true]
          exact ⟨decide_eq_true e, hz⟩
        have hba : b ≤ a := Nat.not_lt.mp fun c => hl a c hva
        have hnext := ih (nI b) (if_neg (by omega)).symm
        rw [ad_cn_s1 hva] at hnext
        refine nm_r (nI_1 _) ?_
        by_cases c : a = b
        · rw [if_pos (by omega)] at hx
          subst hx c
          exact br_f (by decide) (nm_r (nI_1 a) hnext)
        · rw [if_neg (by omega)] at hx
          subst hx
          exact br_t (nI_pos' (by omega)) (nm_r (nI_1 a) hnext)
    · refine nm_r (nI_1 a) (hno fun hva => ?_)
      unfold ad_vY at hva
      rw [Bool.and_eq_true] at hva
      exact e (of_decide_eq_true hva.1)
theorem ay_an {post : Int32 → Prop} {a : Nat} (h : ad_hY g a_altRule a_altStart a_altLen a_sym) (ha : a < ad_C g) (hp : post (nI (1 + ad_cn (fun i => decide (ad_ru g i = ad_ru g a)) a))) : wpY_altNumber post (f_tokenLimit, f_nodeLimit, (nI (ad_C g)), (nI (ad_M g)), f_hasCurrent, f_compiled, (nI n), f_count, f_errPos, f_depth, f_lastViable, a_altRule, a_altStart, a_altLen, a_sym, a_tok, a_nSym, a_nAlt, a_nPar, a_nStart, a_nEnd, a_nAmb, a_ends, a_pre, a_flag, a_beg, a_reach, a_stNode, a_stAlt, a_stNext) (nI a) := by
  have hC := h.1.1
  obtain ⟨b1, b2, b3, bin, b8, b48, b16⟩ := ad_hY_a h ha
  refine pk_loop (fun k i x => wY_altNumber_4 post (nI a) f_tokenLimit f_nodeLimit (nI (ad_C g)) (nI (ad_M g)) f_hasCurrent f_compiled (nI n) f_count f_errPos f_depth f_lastViable a_altRule a_altStart a_altLen a_sym a_tok a_nSym a_nAlt a_nPar a_nStart a_nEnd a_nAmb a_ends a_pre a_flag a_beg a_reach a_stNode a_stAlt a_stNext k x (nI i)) (fun i x => x = nI (1 + ad_cn (fun i => decide (ad_ru g i = ad_ru g a)) i)) a 0 1 (by omega) rfl ?_ ?_
  · intro k x hx
    subst hx
    exact br_t (nI_le (by omega) (by omega)) hp
  · intro k i x hi hx ih
    subst hx
    have hnext := ih _ rfl
    obtain ⟨e1, e2, e3, hin, h8, h48, h16⟩ := ad_hY_a h (a := i) (by omega)
    refine br_f (nI_ge (by omega) (by omega)) ⟨hin, bin, ?_⟩
    rw [e1, b1]
    refine pk_eq (ad_ru g i) (ad_ru g a) (fun e => ?_) (fun e => ?_)
    · rw [ad_cn_s1 (decide_eq_true e)] at hnext
      exact nm_r (nI_1 _) (nm_r (nI_1 i) hnext)
    · rw [ad_cn_s0 (by rw [decide_eq_true_iff]; exact e)] at hnext
      exact nm_r (nI_1 i) hnext
end
section
variable {f_tokenLimit f_nodeLimit f_altCount f_symbolCount f_compiled f_inputLength f_resultSize f_resultError : Int32} {a_altRule a_altNumber a_altStart a_altEnd a_symbols a_input a_firstRules a_spans a_begun a_symbolOf a_altOf a_parentOf a_startOf a_endOf a_ambiguousOf a_nextSymbol a_stopSymbol a_goalsOf : Nat → Int32}
variable {g : ad_G} {tk : Nat → Nat} {n : Nat}
theorem ad_cn_z {P : Nat → Bool} (n : Nat) (h : ∀ i, i < n → ¬ P i = true) : ad_cn P n = 0 := by
  induction n with
  | zero => rfl
  | succ n ih =>
    rw [ad_cn_s0 (h n (by omega))]
    exact ih fun i hi => h i (by omega)
theorem ax_ta {post : SX → Prop} {c a : Nat} (h : ad_hX g a_altRule a_altStart a_altEnd a_symbols) (hc : c < 64) (ha : a < ad_C g) (hp : post (f_tokenLimit, f_nodeLimit, (nI (ad_C g)), (nI (ad_M g)), f_compiled, (nI n), f_resultSize, f_resultError, a_altRule, a_altNumber, a_altStart, a_altEnd, a_symbols, a_input, a_firstRules, a_spans, a_begun, a_symbolOf, (upd a_altOf c (a_altNumber a)), a_parentOf, a_startOf, a_endOf, a_ambiguousOf, (upd a_nextSymbol c (nI (ad_st g a))), (upd a_stopSymbol c (nI (ad_st g a + ad_ln g a))), a_goalsOf)) : wpX_takeAlt post (f_tokenLimit, f_nodeLimit, (nI (ad_C g)), (nI (ad_M g)), f_compiled, (nI n), f_resultSize, f_resultError, a_altRule, a_altNumber, a_altStart, a_altEnd, a_symbols, a_input, a_firstRules, a_spans, a_begun, a_symbolOf, a_altOf, a_parentOf, a_startOf, a_endOf, a_ambiguousOf, a_nextSymbol, a_stopSymbol, a_goalsOf) (nI c) (nI a) := by
  obtain ⟨e1, e2, e3, hina, h8, h48, h16⟩ := ad_hX_a h ha
  have hin : vp_in (nI c) 64 := vp_in_nI hc (by omega)
  have ec : (nI c).toNatClampNeg = c := nI_clamp (by omega)
  have ea : (nI a).toNatClampNeg = a := nI_clamp (by omega)
  exact ⟨hina, hin, nm_r (by rw [ec, ea]) ⟨hina, hin, nm_r (by rw [ec, e2]) ⟨hina, hin, nm_r (by rw [ec, e3]) hp⟩⟩⟩
/-- whether the component may take alternative a of rule r at p -/
def ad_vX (g : ad_G) (n : Nat) (col : Nat → Nat → Int32) (G : Int32) (r p a : Nat) : Bool :=
  decide (ad_ru g a = r) && decide (¬ (ad_ae n col (ad_sy g) (ad_st g a) (ad_ln g a) ((1 : Int32) <<< (nI p &&& 31)) &&& G) = 0)
theorem ax_ch {post : SX → Prop} {c r p b : Nat} {G : Int32} (h : ad_hX g a_altRule a_altStart a_altEnd a_symbols) (hn : n ≤ 12) (hc : c < 64) (hr : r < 8) (hsy : a_symbolOf c = nI r) (hst : a_startOf c = nI p) (hb : b < ad_C g) (hv : ad_vX g n (ad_cX a_spans) G r p b = true) (hl : ∀ b', b' < b → ¬ ad_vX g n (ad_cX a_spans) G r p b' = true)
    (hp : post (f_tokenLimit, f_nodeLimit, (nI (ad_C g)), (nI (ad_M g)), f_compiled, (nI n), f_resultSize, f_resultError, a_altRule, a_altNumber, a_altStart, a_altEnd, a_symbols, a_input, a_firstRules, a_spans, a_begun, a_symbolOf, (upd a_altOf c (a_altNumber b)), a_parentOf, a_startOf, a_endOf, (upd a_ambiguousOf c (if ad_cn (ad_vX g n (ad_cX a_spans) G r p) (ad_C g) ≤ 1 then 0 else 1)), (upd a_nextSymbol c (nI (ad_st g b))), (upd a_stopSymbol c (nI (ad_st g b + ad_ln g b))), (upd a_goalsOf c G))) : wpX_chooseAlt post (f_tokenLimit, f_nodeLimit, (nI (ad_C g)), (nI (ad_M g)), f_compiled, (nI n), f_resultSize, f_resultError, a_altRule, a_altNumber, a_altStart, a_altEnd, a_symbols, a_input, a_firstRules, a_spans, a_begun, a_symbolOf, a_altOf, a_parentOf, a_startOf, a_endOf, a_ambiguousOf, a_nextSymbol, a_stopSymbol, a_goalsOf) (nI c) G := by
  have hC := h.1.1
  have hin : vp_in (nI c) 64 := vp_in_nI hc (by omega)
  have ec : (nI c).toNatClampNeg = c := nI_clamp (by omega)
  refine ⟨hin, ?_⟩
  rw [ec]
  refine nm_e ?_
  refine lp4 (fun k a al nx sto => wX_chooseAlt_12 post (nI c) G k (nI (ad_cn (ad_vX g n (ad_cX a_spans) G r p) a)) (nI a) f_tokenLimit f_nodeLimit (nI (ad_C g)) (nI (ad_M g)) f_compiled (nI n) f_resultSize f_resultError a_altRule a_altNumber a_altStart a_altEnd a_symbols a_input a_firstRules a_spans a_begun a_symbolOf al a_parentOf a_startOf a_endOf a_ambiguousOf nx sto (upd a_goalsOf c G)) (fun a al nx sto => a ≤ ad_C g ∧ (a ≤ b → al = a_altOf ∧ nx = a_nextSymbol ∧ sto = a_stopSymbol) ∧ (b < a → al = upd a_altOf c (a_altNumber b) ∧ nx = upd a_nextSymbol c (nI (ad_st g b)) ∧ sto = upd a_stopSymbol c (nI (ad_st g b + ad_ln g b)))) (fun a _ _ _ => ad_C g - a) ?_ 0 a_altOf a_nextSymbol a_stopSymbol ⟨by omega, fun _ => ⟨rfl, rfl, rfl⟩, fun z => absurd z (Nat.not_lt_zero b)⟩
  intro k a al nx sto ⟨hac, h1, h2⟩ ih
  have hcn := ad_cn_le (ad_vX g n (ad_cX a_spans) G r p) a
  by_cases he : a = ad_C g
  · subst he
    obtain ⟨z1, z2, z3⟩ := h2 hb
    subst z1 z2 z3
    refine br_t (nI_le (by omega) (by omega)) (pk_le (ad_cn (ad_vX g n (ad_cX a_spans) G r p) (ad_C g)) 1 (fun y => ⟨hin, ?_⟩) (fun y => ⟨hin, ?_⟩))
    · rw [ec, ad_nb0]
      rw [if_pos y] at hp
      exact nm_e hp
    · rw [ec, ad_nb1]
      rw [if_neg (by omega)] at hp
      exact nm_e hp
  · have ha : a < ad_C g := by omega
    obtain ⟨e1, e2, e3, hina, h8, h48, h16⟩ := ad_hX_a h ha
    refine br_f (nI_ge (by omega) (by omega)) ⟨hina, hin, ?_⟩
    rw [e1, ec, hsy]
    have hno : ¬ ad_vX g n (ad_cX a_spans) G r p a = true → wX_chooseAlt_12 post (nI c) G k (nI (ad_cn (ad_vX g n (ad_cX a_spans) G r p) a)) (nI (a + 1)) f_tokenLimit f_nodeLimit (nI (ad_C g)) (nI (ad_M g)) f_compiled (nI n) f_resultSize f_resultError a_altRule a_altNumber a_altStart a_altEnd a_symbols a_input a_firstRules a_spans a_begun a_symbolOf al a_parentOf a_startOf a_endOf a_ambiguousOf nx sto (upd a_goalsOf c G) := by
      intro hna
      have hab : ¬ a = b := fun e => hna (by rw [e]; exact hv)
      have hnext := ih (a + 1) al nx sto ⟨by omega, fun z => h1 (by omega), fun z => h2 (by omega)⟩ (by omega)
      rw [ad_cn_s0 hna] at hnext
      exact hnext
    refine pk_eq (ad_ru g a) r (fun e => ⟨hin, ?_⟩) (fun e => ?_)
    · rw [hst]
      refine ax_ea h hn ha ?_
      by_cases hz : (ad_ae n (ad_cX a_spans) (ad_sy g) (ad_st g a) (ad_ln g a) ((1 : Int32) <<< (nI p &&& 31)) &&& G) = 0
      · refine br_t hz (nm_r (nI_1 a) (hno fun hva => ?_))
        unfold ad_vX at hva
        rw [Bool.and_eq_true] at hva
        exact of_decide_eq_true hva.2 hz
      · have hva : ad_vX g n (ad_cX a_spans) G r p a = true := by
          unfold ad_vX
          rw [Bool.and_eq_true]
          exact ⟨decide_eq_true e, decide_eq_true hz⟩
        have hba : b ≤ a := Nat.not_lt.mp fun z => hl a z hva
        refine br_f hz (nm_r (nI_1 _) ?_)
        by_cases hab : a = b
        · subst hab
          obtain ⟨z1, z2, z3⟩ := h1 (Nat.le_refl a)
          subst z1 z2 z3
          have hcz : ad_cn (ad_vX g n (ad_cX a_spans) G r p) a = 0 := ad_cn_z a hl
          have hnext := ih (a + 1) (upd al c (a_altNumber a)) (upd nx c (nI (ad_st g a))) (upd sto c (nI (ad_st g a + ad_ln g a))) ⟨by omega, fun z => absurd z (by omega), fun _ => ⟨rfl, rfl, rfl⟩⟩ (by omega)
          rw [ad_cn_s1 hva] at hnext
          refine br_t (by rw [hcz]; rfl) (ax_ta h hc ha (nm_r (nI_1 a) hnext))
        · have hpos := ad_cn_pos (P := ad_vX g n (ad_cX a_spans) G r p) a b (by omega) hv
          have hnext := ih (a + 1) al nx sto ⟨by omega, fun z => absurd z (by omega), fun z => h2 (by omega)⟩ (by omega)
          rw [ad_cn_s1 hva] at hnext
          exact pk_eq (ad_cn (ad_vX g n (ad_cX a_spans) G r p) a + 1) 1 (fun y => absurd y (by omega)) (fun _ => nm_r (nI_1 a) hnext)
    · refine nm_r (nI_1 a) (hno fun hva => ?_)
      unfold ad_vX at hva
      rw [Bool.and_eq_true] at hva
      exact e (of_decide_eq_true hva.1)
end
end
section
/-! ===== the component: steps of the growing tree ===== -/
theorem ad_nm1 {o : Nat} (h : o < 2 ^ 31) : ¬ nI o = -1 := by
  intro e
  have h1 := congrArg Int32.toInt e
  rw [nI_toInt h, show (-1 : Int32).toInt = -1 from by decide] at h1
  omega
section
variable {f_tokenLimit f_nodeLimit f_altCount f_symbolCount f_compiled f_inputLength f_resultSize f_resultError : Int32} {a_altRule a_altNumber a_altStart a_altEnd a_symbols a_input a_firstRules a_spans a_begun a_symbolOf a_altOf a_parentOf a_startOf a_endOf a_ambiguousOf a_nextSymbol a_stopSymbol a_goalsOf : Nat → Int32}
variable {g : ad_G} {tk : Nat → Nat} {n : Nat}
theorem ax_an {post : SX → Prop} {c : Nat} {p0 p1 p2 : Int32} (hc : c < 64) (hp : post (f_tokenLimit, f_nodeLimit, (nI (ad_C g)), (nI (ad_M g)), f_compiled, (nI n), (nI (c + 1)), f_resultError, a_altRule, a_altNumber, a_altStart, a_altEnd, a_symbols, a_input, a_firstRules, a_spans, a_begun, (upd a_symbolOf c p0), (upd a_altOf c 0), (upd a_parentOf c p1), (upd a_startOf c p2), a_endOf, (upd a_ambiguousOf c 0), a_nextSymbol, a_stopSymbol, a_goalsOf)) : wpX_addNode post (f_tokenLimit, f_nodeLimit, (nI (ad_C g)), (nI (ad_M g)), f_compiled, (nI n), (nI c), f_resultError, a_altRule, a_altNumber, a_altStart, a_altEnd, a_symbols, a_input, a_firstRules, a_spans, a_begun, a_symbolOf, a_altOf, a_parentOf, a_startOf, a_endOf, a_ambiguousOf, a_nextSymbol, a_stopSymbol, a_goalsOf) p0 p1 p2 := by
  have hin : vp_in (nI c) 64 := vp_in_nI hc (by omega)
  have ec : (nI c).toNatClampNeg = c := nI_clamp (by omega)
  exact ⟨hin, nm_r (by rw [ec]) ⟨hin, nm_r (by rw [ec]) ⟨hin, nm_r (by rw [ec]) ⟨hin, nm_r (by rw [ec]) ⟨hin, nm_r (by rw [ec, ad_nb0]) (nm_r (nI_1 c) hp)⟩⟩⟩⟩⟩
theorem xs_end {post : Int32 → SX → Prop} {k step : Nat} {pos : Int32} (hs : step < 128) (hp : post 1 (f_tokenLimit, f_nodeLimit, (nI (ad_C g)), (nI (ad_M g)), f_compiled, (nI n), f_resultSize, f_resultError, a_altRule, a_altNumber, a_altStart, a_altEnd, a_symbols, a_input, a_firstRules, a_spans, a_begun, a_symbolOf, a_altOf, a_parentOf, a_startOf, a_endOf, a_ambiguousOf, a_nextSymbol, a_stopSymbol, a_goalsOf)) : wX_growTree_29 post (k + 1) (-1) pos (nI step) f_tokenLimit f_nodeLimit (nI (ad_C g)) (nI (ad_M g)) f_compiled (nI n) f_resultSize f_resultError a_altRule a_altNumber a_altStart a_altEnd a_symbols a_input a_firstRules a_spans a_begun a_symbolOf a_altOf a_parentOf a_startOf a_endOf a_ambiguousOf a_nextSymbol a_stopSymbol a_goalsOf :=
  br_f (nI_ge (b := 128) hs (by decide)) (br_t rfl hp)
theorem xs_close {post : Int32 → SX → Prop} {k step pos o e e' : Nat} (hs : step < 128) (ho : o < 64) (h1 : a_nextSymbol o = nI e) (h2 : a_stopSymbol o = nI e') (he : e' ≤ e) (h48 : e ≤ 48) (hp : wX_growTree_29 post k (a_parentOf o) (nI pos) (nI (step + 1)) f_tokenLimit f_nodeLimit (nI (ad_C g)) (nI (ad_M g)) f_compiled (nI n) f_resultSize f_resultError a_altRule a_altNumber a_altStart a_altEnd a_symbols a_input a_firstRules a_spans a_begun a_symbolOf a_altOf a_parentOf a_startOf (upd a_endOf o (nI pos)) a_ambiguousOf a_nextSymbol a_stopSymbol a_goalsOf) : wX_growTree_29 post (k + 1) (nI o) (nI pos) (nI step) f_tokenLimit f_nodeLimit (nI (ad_C g)) (nI (ad_M g)) f_compiled (nI n) f_resultSize f_resultError a_altRule a_altNumber a_altStart a_altEnd a_symbols a_input a_firstRules a_spans a_begun a_symbolOf a_altOf a_parentOf a_startOf a_endOf a_ambiguousOf a_nextSymbol a_stopSymbol a_goalsOf := by
  have hin : vp_in (nI o) 64 := vp_in_nI ho (by omega)
  have ec : (nI o).toNatClampNeg = o := nI_clamp (by omega)
  refine br_f (nI_ge (b := 128) hs (by decide)) (br_f (ad_nm1 (by omega)) ⟨hin, hin, br_f ?_ ⟨hin, nm_r (by rw [ec]) ⟨hin, nm_r (by rw [ec]) (nm_r (nI_1 _) hp)⟩⟩⟩)
  rw [ec, h1, h2]
  exact nI_nlt he (by omega)
theorem xs_full {post : Int32 → SX → Prop} {k step pos o e e' c lim : Nat} (hs : step < 128) (ho : o < 64) (h1 : a_nextSymbol o = nI e) (h2 : a_stopSymbol o = nI e') (he : e < e') (h48 : e' ≤ 48) (hc : lim ≤ c) (hl : c ≤ 64) (hp : post 0 (f_tokenLimit, (nI lim), (nI (ad_C g)), (nI (ad_M g)), f_compiled, (nI n), (nI c), f_resultError, a_altRule, a_altNumber, a_altStart, a_altEnd, a_symbols, a_input, a_firstRules, a_spans, a_begun, a_symbolOf, a_altOf, a_parentOf, a_startOf, a_endOf, a_ambiguousOf, a_nextSymbol, a_stopSymbol, a_goalsOf)) : wX_growTree_29 post (k + 1) (nI o) (nI pos) (nI step) f_tokenLimit (nI lim) (nI (ad_C g)) (nI (ad_M g)) f_compiled (nI n) (nI c) f_resultError a_altRule a_altNumber a_altStart a_altEnd a_symbols a_input a_firstRules a_spans a_begun a_symbolOf a_altOf a_parentOf a_startOf a_endOf a_ambiguousOf a_nextSymbol a_stopSymbol a_goalsOf := by
  have hin : vp_in (nI o) 64 := vp_in_nI ho (by omega)
  have ec : (nI o).toNatClampNeg = o := nI_clamp (by omega)
  refine br_f (nI_ge (b := 128) hs (by decide)) (br_f (ad_nm1 (by omega)) ⟨hin, hin, br_t ?_ (br_f (nI_nlt hc (by omega)) hp)⟩)
  rw [ec, h1, h2]
  exact nI_lt he (by omega)
theorem xs_tok {post : Int32 → SX → Prop} {k step pos o e e' c lim s : Nat} (hs : step < 128) (ho : o < 64) (h1 : a_nextSymbol o = nI e) (h2 : a_stopSymbol o = nI e') (he : e < e') (h48 : e' ≤ 48) (hc : c < lim) (hl : lim ≤ 64) (hsy : a_symbols e = nI s) (h16 : s < 16)
    (hp : wX_growTree_29 post k (nI o) (nI (pos + 1)) (nI (step + 1)) f_tokenLimit (nI lim) (nI (ad_C g)) (nI (ad_M g)) f_compiled (nI n) (nI (c + 1)) f_resultError a_altRule a_altNumber a_altStart a_altEnd a_symbols a_input a_firstRules a_spans a_begun (upd a_symbolOf c (nI s)) (upd a_altOf c 0) (upd a_parentOf c (nI o)) (upd a_startOf c (nI pos)) (upd a_endOf c (nI (pos + 1))) (upd a_ambiguousOf c 0) (upd a_nextSymbol o (nI (e + 1))) a_stopSymbol a_goalsOf) : wX_growTree_29 post (k + 1) (nI o) (nI pos) (nI step) f_tokenLimit (nI lim) (nI (ad_C g)) (nI (ad_M g)) f_compiled (nI n) (nI c) f_resultError a_altRule a_altNumber a_altStart a_altEnd a_symbols a_input a_firstRules a_spans a_begun a_symbolOf a_altOf a_parentOf a_startOf a_endOf a_ambiguousOf a_nextSymbol a_stopSymbol a_goalsOf := by
  have hin : vp_in (nI o) 64 := vp_in_nI ho (by omega)
  have ec : (nI o).toNatClampNeg = o := nI_clamp (by omega)
  have ee : (nI e).toNatClampNeg = e := nI_clamp (by omega)
  have e1 : a_nextSymbol (nI o).toNatClampNeg = nI e := by rw [ec]; exact h1
  have hcc : (nI c).toNatClampNeg = c := nI_clamp (by omega)
  refine br_f (nI_ge (b := 128) hs (by decide)) (br_f (ad_nm1 (by omega)) ⟨hin, hin, br_t ?_ (br_t (nI_lt hc (by omega)) ⟨hin, ?_⟩)⟩)
  · rw [e1, ec, h2]
    exact nI_lt he (by omega)
  · rw [e1]
    refine ⟨vp_in_nI (by omega) (by omega), nm_r (show a_symbols (nI e).toNatClampNeg = nI s by rw [ee]; exact hsy) ⟨hin, hin, nm_r (by rw [ec, nI_1]) (br_f (nI_ge (b := 16) h16 (by decide)) (ax_an (by omega) (nm_r (nI_1 pos) ⟨vp_in_nI (by omega) (by omega), nm_r (by rw [hcc]) (nm_r (nI_1 step) hp)⟩)))⟩⟩
theorem xs_rule {post : Int32 → SX → Prop} {k step pos o e e' c lim s b : Nat} {G0 : Int32} (h : ad_hX g a_altRule a_altStart a_altEnd a_symbols) (hn : n ≤ 12) (hs : step < 128) (ho : o < c) (h1 : a_nextSymbol o = nI e) (h2 : a_stopSymbol o = nI e') (h3 : a_goalsOf o = G0) (he : e < e') (hM : e' ≤ ad_M g) (hc : c < lim) (hl : lim ≤ 64) (hsy : a_symbols e = nI s) (h16 : 16 ≤ s) (h24 : s < 24)
    (hb : b < ad_C g) (hv : ad_vX g n (ad_cX a_spans) (ad_gl n (ad_cX a_spans) (ad_sy g) e' (e' - (e + 1)) G0) (s - 16) pos b = true) (hlst : ∀ b', b' < b → ¬ ad_vX g n (ad_cX a_spans) (ad_gl n (ad_cX a_spans) (ad_sy g) e' (e' - (e + 1)) G0) (s - 16) pos b' = true)
    (hp : wX_growTree_29 post k (nI c) (nI pos) (nI (step + 1)) f_tokenLimit (nI lim) (nI (ad_C g)) (nI (ad_M g)) f_compiled (nI n) (nI (c + 1)) f_resultError a_altRule a_altNumber a_altStart a_altEnd a_symbols a_input a_firstRules a_spans a_begun (upd a_symbolOf c (nI (s - 16))) (upd a_altOf c (a_altNumber b)) (upd a_parentOf c (nI o)) (upd a_startOf c (nI pos)) a_endOf (upd a_ambiguousOf c (if ad_cn (ad_vX g n (ad_cX a_spans) (ad_gl n (ad_cX a_spans) (ad_sy g) e' (e' - (e + 1)) G0) (s - 16) pos) (ad_C g) ≤ 1 then 0 else 1)) (upd (upd a_nextSymbol o (nI (e + 1))) c (nI (ad_st g b))) (upd a_stopSymbol c (nI (ad_st g b + ad_ln g b))) (upd a_goalsOf c (ad_gl n (ad_cX a_spans) (ad_sy g) e' (e' - (e + 1)) G0))) : wX_growTree_29 post (k + 1) (nI o) (nI pos) (nI step) f_tokenLimit (nI lim) (nI (ad_C g)) (nI (ad_M g)) f_compiled (nI n) (nI c) f_resultError a_altRule a_altNumber a_altStart a_altEnd a_symbols a_input a_firstRules a_spans a_begun a_symbolOf a_altOf a_parentOf a_startOf a_endOf a_ambiguousOf a_nextSymbol a_stopSymbol a_goalsOf := by
  have hM48 := h.1.2.1
  have hin : vp_in (nI o) 64 := vp_in_nI (by omega) (by omega)
  have ec : (nI o).toNatClampNeg = o := nI_clamp (by omega)
  have ee : (nI e).toNatClampNeg = e := nI_clamp (by omega)
  have e1 : a_nextSymbol (nI o).toNatClampNeg = nI e := by rw [ec]; exact h1
  refine br_f (nI_ge (b := 128) hs (by decide)) (br_f (ad_nm1 (by omega)) ⟨hin, hin, br_t ?_ (br_t (nI_lt hc (by omega)) ⟨hin, ?_⟩)⟩)
  · rw [e1, ec, h2]
    exact nI_lt he (by omega)
  · rw [e1]
    refine ⟨vp_in_nI (by omega) (by omega), nm_r (show a_symbols (nI e).toNatClampNeg = nI s by rw [ee]; exact hsy) ⟨hin, hin, nm_r (e' := upd a_nextSymbol o (nI (e + 1))) (by rw [ec, nI_1]) (br_t (nI_le (a := 16) h16 (by omega)) ?_)⟩⟩
    rw [ad_16 h16]
    refine ax_an (by omega) ?_
    refine ax_gc h hn (c := o) (by omega) pk_us h2 h3 (by omega) hM ?_
    refine ax_ch h hn (by omega) (by omega) pk_us pk_us hb hv hlst ?_
    rw [ad_uu, ad_uu]
    exact nm_r (nI_1 step) hp
end
end
section
/-! ===== the reference: steps of the walk ===== -/
section
variable {f_tokenLimit f_nodeLimit f_altCount f_symCount f_hasCurrent f_compiled f_n f_count f_errPos f_depth f_lastViable : Int32} {a_altRule a_altStart a_altLen a_sym a_tok a_nSym a_nAlt a_nPar a_nStart a_nEnd a_nAmb a_ends a_pre a_flag a_beg a_reach a_stNode a_stAlt a_stNext : Nat → Int32}
variable {g : ad_G} {tk : Nat → Nat} {n : Nat}
theorem ay_pl {post : SY → Prop} {c : Nat} {p0 p1 p2 p3 p4 : Int32} (hc : c < 64) (h4 : vp_nar .boolean p4 = p4) (hp : post (f_tokenLimit, f_nodeLimit, (nI (ad_C g)), (nI (ad_M g)), f_hasCurrent, f_compiled, (nI n), (nI (c + 1)), f_errPos, f_depth, f_lastViable, a_altRule, a_altStart, a_altLen, a_sym, a_tok, (upd a_nSym c p0), (upd a_nAlt c p1), (upd a_nPar c p2), (upd a_nStart c p3), (upd a_nEnd c p3), (upd a_nAmb c p4), a_ends, a_pre, a_flag, a_beg, a_reach, a_stNode, a_stAlt, a_stNext)) : wpY_place post (f_tokenLimit, f_nodeLimit, (nI (ad_C g)), (nI (ad_M g)), f_hasCurrent, f_compiled, (nI n), (nI c), f_errPos, f_depth, f_lastViable, a_altRule, a_altStart, a_altLen, a_sym, a_tok, a_nSym, a_nAlt, a_nPar, a_nStart, a_nEnd, a_nAmb, a_ends, a_pre, a_flag, a_beg, a_reach, a_stNode, a_stAlt, a_stNext) p0 p1 p2 p3 p4 := by
  have hin : vp_in (nI c) 64 := vp_in_nI hc (by omega)
  have ec : (nI c).toNatClampNeg = c := nI_clamp (by omega)
  exact br_t (nI_lt (b := 64) hc (by decide)) ⟨hin, nm_r (by rw [ec]) ⟨hin, nm_r (by rw [ec]) ⟨hin, nm_r (by rw [ec]) ⟨hin, nm_r (by rw [ec]) ⟨hin, nm_r (by rw [ec]) ⟨hin, nm_r (by rw [ec, h4]) (nm_r (nI_1 c) hp)⟩⟩⟩⟩⟩⟩
theorem ys_end {post : Int32 → SY → Prop} {k step : Nat} {pos : Int32} (hs : step < 128) (hp : post 0 (f_tokenLimit, f_nodeLimit, (nI (ad_C g)), (nI (ad_M g)), f_hasCurrent, f_compiled, (nI n), f_count, f_errPos, 0, f_lastViable, a_altRule, a_altStart, a_altLen, a_sym, a_tok, a_nSym, a_nAlt, a_nPar, a_nStart, a_nEnd, a_nAmb, a_ends, a_pre, a_flag, a_beg, a_reach, a_stNode, a_stAlt, a_stNext)) : wY_walk_81 post (k + 1) pos (nI step) f_tokenLimit f_nodeLimit (nI (ad_C g)) (nI (ad_M g)) f_hasCurrent f_compiled (nI n) f_count f_errPos 0 f_lastViable a_altRule a_altStart a_altLen a_sym a_tok a_nSym a_nAlt a_nPar a_nStart a_nEnd a_nAmb a_ends a_pre a_flag a_beg a_reach a_stNode a_stAlt a_stNext :=
  br_f (nI_ge (b := 200) (by omega) (by decide)) (br_t (by decide) (br_t (by decide) hp))
theorem ys_close {post : Int32 → SY → Prop} {k step pos f o a s0 : Nat} (h : ad_hY g a_altRule a_altStart a_altLen a_sym) (hs : step < 128) (hf : f < 64) (ho : o < 64) (ha : a < ad_C g) (h1 : a_stAlt f = nI a) (h2 : a_stNext f = nI s0) (h3 : a_stNode f = nI o) (he : s0 = ad_ln g a) (hp : wY_walk_81 post k (nI pos) (nI (step + 1)) f_tokenLimit f_nodeLimit (nI (ad_C g)) (nI (ad_M g)) f_hasCurrent f_compiled (nI n) f_count f_errPos (nI f) f_lastViable a_altRule a_altStart a_altLen a_sym a_tok a_nSym a_nAlt a_nPar a_nStart (upd a_nEnd o (nI pos)) a_nAmb a_ends a_pre a_flag a_beg a_reach a_stNode a_stAlt a_stNext) : wY_walk_81 post (k + 1) (nI pos) (nI step) f_tokenLimit f_nodeLimit (nI (ad_C g)) (nI (ad_M g)) f_hasCurrent f_compiled (nI n) f_count f_errPos (nI (f + 1)) f_lastViable a_altRule a_altStart a_altLen a_sym a_tok a_nSym a_nAlt a_nPar a_nStart a_nEnd a_nAmb a_ends a_pre a_flag a_beg a_reach a_stNode a_stAlt a_stNext := by
  obtain ⟨e1, e2, e3, hina, h8, h48, h16⟩ := ad_hY_a h ha
  have hin : vp_in (nI f) 64 := vp_in_nI hf (by omega)
  have ef : (nI f).toNatClampNeg = f := nI_clamp (by omega)
  have eo : (nI o).toNatClampNeg = o := nI_clamp (by omega)
  refine br_f (nI_ge (b := 200) (by omega) (by decide)) (br_f (nI_nle (by omega) (by omega)) (nm_r (nI_pred f) ⟨hin, nm_r (show a_stAlt (nI f).toNatClampNeg = nI a by rw [ef]; exact h1) ⟨hin, nm_r (show a_stNext (nI f).toNatClampNeg = nI s0 by rw [ef]; exact h2) ⟨hina, br_f ?_ ⟨hin, ?_⟩⟩⟩⟩))
  · rw [e3, he]
    exact nI_nlt (by omega) (by omega)
  · rw [ef, h3, eo]
    exact ⟨vp_in_nI ho (by omega), nm_e (nm_r (nI_pred f) (nm_r (nI_1 step) hp))⟩
/-- the way to a symbol -/
theorem ys_sym {post : Int32 → SY → Prop} {k step pos f o a s0 : Nat} (h : ad_hY g a_altRule a_altStart a_altLen a_sym) (hs : step < 128) (hf : f < 64) (ha : a < ad_C g) (h1 : a_stAlt f = nI a) (h2 : a_stNext f = nI s0) (h3 : a_stNode f = nI o) (he : s0 < ad_ln g a)
    (hp : ((16 ≤ nI (ad_sy g (ad_st g a + s0)) → wpY_choose (fun r_120 u => match u with
        | ⟨z_f_tokenLimit, z_f_nodeLimit, z_f_altCount, z_f_symCount, z_f_hasCurrent, z_f_compiled, z_f_n, z_f_count, z_f_errPos, z_f_depth, z_f_lastViable, z_a_altRule, z_a_altStart, z_a_altLen, z_a_sym, z_a_tok, z_a_nSym, z_a_nAlt, z_a_nPar, z_a_nStart, z_a_nEnd, z_a_nAmb, z_a_ends, z_a_pre, z_a_flag, z_a_beg, z_a_reach, z_a_stNode, z_a_stAlt, z_a_stNext⟩ => (((0 ≤ r_120 → (((z_f_nodeLimit ≤ z_f_count → (post 1 (z_f_tokenLimit, z_f_nodeLimit, z_f_altCount, z_f_symCount, z_f_hasCurrent, z_f_compiled, z_f_n, z_f_count, z_f_errPos, z_f_depth, z_f_lastViable, z_a_altRule, z_a_altStart, z_a_altLen, z_a_sym, z_a_tok, z_a_nSym, z_a_nAlt, z_a_nPar, z_a_nStart, z_a_nEnd, z_a_nAmb, z_a_ends, z_a_pre, z_a_flag, z_a_beg, z_a_reach, z_a_stNode, z_a_stAlt, z_a_stNext))) ∧ (¬ z_f_nodeLimit ≤ z_f_count → (((z_f_depth < 64 → (wpY_altNumber (fun r_154 => (((z_f_lastViable < 2 → (wY_walk_339 post (wY_walk_81 post k) (nI pos) (nI step) r_120 0 (nI pos) (nI o) r_154 (nI (ad_sy g (ad_st g a + s0)) - 16) z_f_tokenLimit z_f_nodeLimit z_f_altCount z_f_symCount z_f_hasCurrent z_f_compiled z_f_n z_f_count z_f_errPos z_f_depth z_f_lastViable z_a_altRule z_a_altStart z_a_altLen z_a_sym z_a_tok z_a_nSym z_a_nAlt z_a_nPar z_a_nStart z_a_nEnd z_a_nAmb z_a_ends z_a_pre z_a_flag z_a_beg z_a_reach z_a_stNode z_a_stAlt z_a_stNext)) ∧ (¬ z_f_lastViable < 2 → (wY_walk_339 post (wY_walk_81 post k) (nI pos) (nI step) r_120 1 (nI pos) (nI o) r_154 (nI (ad_sy g (ad_st g a + s0)) - 16) z_f_tokenLimit z_f_nodeLimit z_f_altCount z_f_symCount z_f_hasCurrent z_f_compiled z_f_n z_f_count z_f_errPos z_f_depth z_f_lastViable z_a_altRule z_a_altStart z_a_altLen z_a_sym z_a_tok z_a_nSym z_a_nAlt z_a_nPar z_a_nStart z_a_nEnd z_a_nAmb z_a_ends z_a_pre z_a_flag z_a_beg z_a_reach z_a_stNode z_a_stAlt z_a_stNext))))) (z_f_tokenLimit, z_f_nodeLimit, z_f_altCount, z_f_symCount, z_f_hasCurrent, z_f_compiled, z_f_n, z_f_count, z_f_errPos, z_f_depth, z_f_lastViable, z_a_altRule, z_a_altStart, z_a_altLen, z_a_sym, z_a_tok, z_a_nSym, z_a_nAlt, z_a_nPar, z_a_nStart, z_a_nEnd, z_a_nAmb, z_a_ends, z_a_pre, z_a_flag, z_a_beg, z_a_reach, z_a_stNode, z_a_stAlt, z_a_stNext) r_120)) ∧ (¬ z_f_depth < 64 → (post 1 (z_f_tokenLimit, z_f_nodeLimit, z_f_altCount, z_f_symCount, z_f_hasCurrent, z_f_compiled, z_f_n, z_f_count, z_f_errPos, z_f_depth, z_f_lastViable, z_a_altRule, z_a_altStart, z_a_altLen, z_a_sym, z_a_tok, z_a_nSym, z_a_nAlt, z_a_nPar, z_a_nStart, z_a_nEnd, z_a_nAmb, z_a_ends, z_a_pre, z_a_flag, z_a_beg, z_a_reach, z_a_stNode, z_a_stAlt, z_a_stNext))))))))) ∧ (¬ 0 ≤ r_120 → (post 2 (z_f_tokenLimit, z_f_nodeLimit, z_f_altCount, z_f_symCount, z_f_hasCurrent, z_f_compiled, z_f_n, z_f_count, z_f_errPos, z_f_depth, z_f_lastViable, z_a_altRule, z_a_altStart, z_a_altLen, z_a_sym, z_a_tok, z_a_nSym, z_a_nAlt, z_a_nPar, z_a_nStart, z_a_nEnd, z_a_nAmb, z_a_ends, z_a_pre, z_a_flag, z_a_beg, z_a_reach, z_a_stNode, z_a_stAlt, z_a_stNext)))))) (f_tokenLimit, f_nodeLimit, (nI (ad_C g)), (nI (ad_M g)), f_hasCurrent, f_compiled, (nI n), f_count, f_errPos, (nI (f + 1)), f_lastViable, a_altRule, a_altStart, a_altLen, a_sym, a_tok, a_nSym, a_nAlt, a_nPar, a_nStart, a_nEnd, a_nAmb, a_ends, a_pre, a_flag, a_beg, a_reach, a_stNode, a_stAlt, (upd a_stNext f (nI (s0 + 1)))) (nI (ad_sy g (ad_st g a + s0)) - 16) (nI pos)) ∧
      (¬ 16 ≤ nI (ad_sy g (ad_st g a + s0)) → (((f_nodeLimit ≤ f_count → (wY_walk_220 post f_tokenLimit f_nodeLimit (nI (ad_C g)) (nI (ad_M g)) f_hasCurrent f_compiled (nI n) f_count f_errPos (nI (f + 1)) f_lastViable a_altRule a_altStart a_altLen a_sym a_tok a_nSym a_nAlt a_nPar a_nStart a_nEnd a_nAmb a_ends a_pre a_flag a_beg a_reach a_stNode a_stAlt (upd a_stNext f (nI (s0 + 1))))) ∧ (¬ f_nodeLimit ≤ f_count → (((nI pos < nI n → (wpY_place (fun u => match u with
        | ⟨z_f_tokenLimit, z_f_nodeLimit, z_f_altCount, z_f_symCount, z_f_hasCurrent, z_f_compiled, z_f_n, z_f_count, z_f_errPos, z_f_depth, z_f_lastViable, z_a_altRule, z_a_altStart, z_a_altLen, z_a_sym, z_a_tok, z_a_nSym, z_a_nAlt, z_a_nPar, z_a_nStart, z_a_nEnd, z_a_nAmb, z_a_ends, z_a_pre, z_a_flag, z_a_beg, z_a_reach, z_a_stNode, z_a_stAlt, z_a_stNext⟩ => (vp_in (z_f_count - 1) 64 ∧ ∀ z_E : Nat → Int32, z_E = upd z_a_nEnd (z_f_count - 1).toNatClampNeg (nI pos + 1) → (∀ z_1 : Int32, z_1 = nI pos + 1 → (∀ z_4 : Int32, z_4 = nI step + 1 → (wY_walk_81 post k z_1 z_4 z_f_tokenLimit z_f_nodeLimit z_f_altCount z_f_symCount z_f_hasCurrent z_f_compiled z_f_n z_f_count z_f_errPos z_f_depth z_f_lastViable z_a_altRule z_a_altStart z_a_altLen z_a_sym z_a_tok z_a_nSym z_a_nAlt z_a_nPar z_a_nStart z_E z_a_nAmb z_a_ends z_a_pre z_a_flag z_a_beg z_a_reach z_a_stNode z_a_stAlt z_a_stNext))))) (f_tokenLimit, f_nodeLimit, (nI (ad_C g)), (nI (ad_M g)), f_hasCurrent, f_compiled, (nI n), f_count, f_errPos, (nI (f + 1)), f_lastViable, a_altRule, a_altStart, a_altLen, a_sym, a_tok, a_nSym, a_nAlt, a_nPar, a_nStart, a_nEnd, a_nAmb, a_ends, a_pre, a_flag, a_beg, a_reach, a_stNode, a_stAlt, (upd a_stNext f (nI (s0 + 1)))) (nI (ad_sy g (ad_st g a + s0))) 0 (nI o) (nI pos) 0)) ∧ (¬ nI pos < nI n → (wY_walk_220 post f_tokenLimit f_nodeLimit (nI (ad_C g)) (nI (ad_M g)) f_hasCurrent f_compiled (nI n) f_count f_errPos (nI (f + 1)) f_lastViable a_altRule a_altStart a_altLen a_sym a_tok a_nSym a_nAlt a_nPar a_nStart a_nEnd a_nAmb a_ends a_pre a_flag a_beg a_reach a_stNode a_stAlt (upd a_stNext f (nI (s0 + 1))))))))))))) : wY_walk_81 post (k + 1) (nI pos) (nI step) f_tokenLimit f_nodeLimit (nI (ad_C g)) (nI (ad_M g)) f_hasCurrent f_compiled (nI n) f_count f_errPos (nI (f + 1)) f_lastViable a_altRule a_altStart a_altLen a_sym a_tok a_nSym a_nAlt a_nPar a_nStart a_nEnd a_nAmb a_ends a_pre a_flag a_beg a_reach a_stNode a_stAlt a_stNext := by
  obtain ⟨e1, e2, e3, hina, h8, h48, h16⟩ := ad_hY_a h ha
  obtain ⟨s1, s2, s3, s4⟩ := ad_hY_k h ha he
  have hin : vp_in (nI f) 64 := vp_in_nI hf (by omega)
  have ef : (nI f).toNatClampNeg = f := nI_clamp (by omega)
  refine br_f (nI_ge (b := 200) (by omega) (by decide)) (br_f (nI_nle (by omega) (by omega)) (nm_r (nI_pred f) ⟨hin, nm_r (show a_stAlt (nI f).toNatClampNeg = nI a by rw [ef]; exact h1) ⟨hin, nm_r (show a_stNext (nI f).toNatClampNeg = nI s0 by rw [ef]; exact h2) ⟨hina, br_t ?_ ⟨hina, s2, nm_r s1 ⟨hin, nm_r (e' := upd a_stNext f (nI (s0 + 1))) (by rw [ef, nI_1]) ⟨hin, nm_r (show a_stNode (nI f).toNatClampNeg = nI o by rw [ef]; exact h3) hp⟩⟩⟩⟩⟩⟩))
  rw [e3]
  exact nI_lt he (by omega)
theorem ys_tok {post : Int32 → SY → Prop} {k step pos f o a s0 c lim : Nat} (h : ad_hY g a_altRule a_altStart a_altLen a_sym) (hs : step < 128) (hf : f < 64) (ha : a < ad_C g) (h1 : a_stAlt f = nI a) (h2 : a_stNext f = nI s0) (h3 : a_stNode f = nI o) (he : s0 < ad_ln g a) (h16 : ad_sy g (ad_st g a + s0) < 16) (hc : c < lim) (hl : lim ≤ 64) (hn : n ≤ 12) (hpos : pos < n)
    (hp : wY_walk_81 post k (nI (pos + 1)) (nI (step + 1)) f_tokenLimit (nI lim) (nI (ad_C g)) (nI (ad_M g)) f_hasCurrent f_compiled (nI n) (nI (c + 1)) f_errPos (nI (f + 1)) f_lastViable a_altRule a_altStart a_altLen a_sym a_tok (upd a_nSym c (nI (ad_sy g (ad_st g a + s0)))) (upd a_nAlt c 0) (upd a_nPar c (nI o)) (upd a_nStart c (nI pos)) (upd a_nEnd c (nI (pos + 1))) (upd a_nAmb c 0) a_ends a_pre a_flag a_beg a_reach a_stNode a_stAlt (upd a_stNext f (nI (s0 + 1)))) : wY_walk_81 post (k + 1) (nI pos) (nI step) f_tokenLimit (nI lim) (nI (ad_C g)) (nI (ad_M g)) f_hasCurrent f_compiled (nI n) (nI c) f_errPos (nI (f + 1)) f_lastViable a_altRule a_altStart a_altLen a_sym a_tok a_nSym a_nAlt a_nPar a_nStart a_nEnd a_nAmb a_ends a_pre a_flag a_beg a_reach a_stNode a_stAlt a_stNext := by
  refine ys_sym h hs hf ha h1 h2 h3 he ?_
  refine br_f (nI_ge (b := 16) h16 (by decide)) (br_f (nI_ge hc (by omega)) (br_t (nI_lt hpos (by omega)) (ay_pl (by omega) ad_nb0 ?_)))
  refine ⟨?_, nm_r (e' := upd a_nEnd c (nI (pos + 1))) ?_ (nm_r (nI_1 pos) (nm_r (nI_1 step) hp))⟩
  · rw [nI_pred]
    exact vp_in_nI (by omega) (by omega)
  · rw [nI_pred, nI_clamp (by omega), ad_uu, nI_1]
theorem ys_fullt {post : Int32 → SY → Prop} {k step pos f o a s0 c lim : Nat} (h : ad_hY g a_altRule a_altStart a_altLen a_sym) (hs : step < 128) (hf : f < 64) (ha : a < ad_C g) (h1 : a_stAlt f = nI a) (h2 : a_stNext f = nI s0) (h3 : a_stNode f = nI o) (he : s0 < ad_ln g a) (h16 : ad_sy g (ad_st g a + s0) < 16) (hc : lim ≤ c) (hl : c ≤ 64)
    (hp : post 1 (f_tokenLimit, (nI lim), (nI (ad_C g)), (nI (ad_M g)), f_hasCurrent, f_compiled, (nI n), (nI c), f_errPos, (nI (f + 1)), f_lastViable, a_altRule, a_altStart, a_altLen, a_sym, a_tok, a_nSym, a_nAlt, a_nPar, a_nStart, a_nEnd, a_nAmb, a_ends, a_pre, a_flag, a_beg, a_reach, a_stNode, a_stAlt, (upd a_stNext f (nI (s0 + 1))))) : wY_walk_81 post (k + 1) (nI pos) (nI step) f_tokenLimit (nI lim) (nI (ad_C g)) (nI (ad_M g)) f_hasCurrent f_compiled (nI n) (nI c) f_errPos (nI (f + 1)) f_lastViable a_altRule a_altStart a_altLen a_sym a_tok a_nSym a_nAlt a_nPar a_nStart a_nEnd a_nAmb a_ends a_pre a_flag a_beg a_reach a_stNode a_stAlt a_stNext := by
  refine ys_sym h hs hf ha h1 h2 h3 he ?_
  exact br_f (nI_ge (b := 16) h16 (by decide)) (br_t (nI_le hc (by omega)) (br_f (nI_nlt hc (by omega)) hp))
theorem ys_rule {post : Int32 → SY → Prop} {k step pos f o a s0 c lim b : Nat} {sa sn : Nat → Nat} (h : ad_hY g a_altRule a_altStart a_altLen a_sym) (hi : ad_hI tk n a_tok) (hs : step < 128) (hf : f < 63) (ha : a < ad_C g) (h1 : a_stAlt f = nI a) (h2 : a_stNext f = nI s0) (h3 : a_stNode f = nI o) (he : s0 < ad_ln g a) (h16 : 16 ≤ ad_sy g (ad_st g a + s0)) (hc : c < lim) (hl : lim ≤ 64)
    (hF : ad_yF g (f + 1) sa sn a_stAlt (upd a_stNext f (nI (s0 + 1)))) (hb : b < ad_C g) (hv : ad_vY g n (ad_cY tk n a_ends) sa sn (f + 1) (ad_sy g (ad_st g a + s0) - 16) pos b = true) (hlst : ∀ b', b' < b → ¬ ad_vY g n (ad_cY tk n a_ends) sa sn (f + 1) (ad_sy g (ad_st g a + s0) - 16) pos b' = true)
    (hp : ∀ lv, lv = nI (ad_cn (ad_vY g n (ad_cY tk n a_ends) sa sn (f + 1) (ad_sy g (ad_st g a + s0) - 16) pos) (ad_C g)) → wY_walk_81 post k (nI pos) (nI (step + 1)) f_tokenLimit (nI lim) (nI (ad_C g)) (nI (ad_M g)) f_hasCurrent f_compiled (nI n) (nI (c + 1)) f_errPos (nI (f + 2)) lv a_altRule a_altStart a_altLen a_sym a_tok (upd a_nSym c (nI (ad_sy g (ad_st g a + s0) - 16))) (upd a_nAlt c (nI (1 + ad_cn (fun i => decide (ad_ru g i = ad_ru g b)) b))) (upd a_nPar c (nI o)) (upd a_nStart c (nI pos)) (upd a_nEnd c (nI pos)) (upd a_nAmb c (if ad_cn (ad_vY g n (ad_cY tk n a_ends) sa sn (f + 1) (ad_sy g (ad_st g a + s0) - 16) pos) (ad_C g) ≤ 1 then 0 else 1)) a_ends a_pre a_flag a_beg a_reach (upd a_stNode (f + 1) (nI c)) (upd a_stAlt (f + 1) (nI b)) (upd (upd a_stNext f (nI (s0 + 1))) (f + 1) 0)) : wY_walk_81 post (k + 1) (nI pos) (nI step) f_tokenLimit (nI lim) (nI (ad_C g)) (nI (ad_M g)) f_hasCurrent f_compiled (nI n) (nI c) f_errPos (nI (f + 1)) f_lastViable a_altRule a_altStart a_altLen a_sym a_tok a_nSym a_nAlt a_nPar a_nStart a_nEnd a_nAmb a_ends a_pre a_flag a_beg a_reach a_stNode a_stAlt a_stNext := by
  have h24 := ad_wsy h.1 ha he
  have hC := h.1.1
  have hcn := ad_cn_le (ad_vY g n (ad_cY tk n a_ends) sa sn (f + 1) (ad_sy g (ad_st g a + s0) - 16) pos) (ad_C g)
  refine ys_sym h hs (by omega) ha h1 h2 h3 he ?_
  refine br_t (nI_le (a := 16) h16 (by omega)) ?_
  rw [ad_16 h16]
  refine ay_ch h hi (by omega) hF (by omega) hb hv hlst ?_
  have hpl : ∀ am : Int32, vp_nar .boolean am = am → am = (if ad_cn (ad_vY g n (ad_cY tk n a_ends) sa sn (f + 1) (ad_sy g (ad_st g a + s0) - 16) pos) (ad_C g) ≤ 1 then 0 else 1) → ∀ lv, lv = nI (ad_cn (ad_vY g n (ad_cY tk n a_ends) sa sn (f + 1) (ad_sy g (ad_st g a + s0) - 16) pos) (ad_C g)) → wY_walk_339 post (wY_walk_81 post k) (nI pos) (nI step) (nI b) am (nI pos) (nI o) (nI (1 + ad_cn (fun i => decide (ad_ru g i = ad_ru g b)) b)) (nI (ad_sy g (ad_st g a + s0) - 16)) f_tokenLimit (nI lim) (nI (ad_C g)) (nI (ad_M g)) f_hasCurrent f_compiled (nI n) (nI c) f_errPos (nI (f + 1)) lv a_altRule a_altStart a_altLen a_sym a_tok a_nSym a_nAlt a_nPar a_nStart a_nEnd a_nAmb a_ends a_pre a_flag a_beg a_reach a_stNode a_stAlt (upd a_stNext f (nI (s0 + 1))) := by
    intro am ham eam lv elv
    have hin : vp_in (nI (f + 1)) 64 := vp_in_nI (by omega) (by omega)
    have ef : (nI (f + 1)).toNatClampNeg = f + 1 := nI_clamp (by omega)
    refine ay_pl (by omega) ham ?_
    rw [eam]
    exact ⟨hin, nm_r (by rw [ef, nI_pred]) ⟨hin, nm_r (by rw [ef]) ⟨hin, nm_r (by rw [ef]) (nm_r (nI_1 (f + 1)) (nm_r (nI_1 step) (hp lv elv)))⟩⟩⟩
  refine br_t (nI_pos' (by omega)) (br_f (nI_ge hc (by omega)) (br_t (nI_lt (b := 64) (by omega) (by decide)) (ay_an h hb ?_)))
  refine pk_lt (ad_cn (ad_vY g n (ad_cY tk n a_ends) sa sn (f + 1) (ad_sy g (ad_st g a + s0) - 16) pos) (ad_C g)) 2 (fun z => hpl 0 ad_nb0 ?_ _ rfl) (fun z => hpl 1 ad_nb1 ?_ _ rfl)
  · rw [if_pos (by omega)]
  · rw [if_neg (by omega)]
theorem ys_fullr {post : Int32 → SY → Prop} {k step pos f o a s0 c lim b : Nat} {sa sn : Nat → Nat} (h : ad_hY g a_altRule a_altStart a_altLen a_sym) (hi : ad_hI tk n a_tok) (hs : step < 128) (hf : f < 64) (ha : a < ad_C g) (h1 : a_stAlt f = nI a) (h2 : a_stNext f = nI s0) (h3 : a_stNode f = nI o) (he : s0 < ad_ln g a) (h16 : 16 ≤ ad_sy g (ad_st g a + s0)) (hc : lim ≤ c) (hl : c ≤ 64)
    (hF : ad_yF g (f + 1) sa sn a_stAlt (upd a_stNext f (nI (s0 + 1)))) (hb : b < ad_C g) (hv : ad_vY g n (ad_cY tk n a_ends) sa sn (f + 1) (ad_sy g (ad_st g a + s0) - 16) pos b = true) (hlst : ∀ b', b' < b → ¬ ad_vY g n (ad_cY tk n a_ends) sa sn (f + 1) (ad_sy g (ad_st g a + s0) - 16) pos b' = true)
    (hp : ∀ lv, post 1 (f_tokenLimit, (nI lim), (nI (ad_C g)), (nI (ad_M g)), f_hasCurrent, f_compiled, (nI n), (nI c), f_errPos, (nI (f + 1)), lv, a_altRule, a_altStart, a_altLen, a_sym, a_tok, a_nSym, a_nAlt, a_nPar, a_nStart, a_nEnd, a_nAmb, a_ends, a_pre, a_flag, a_beg, a_reach, a_stNode, a_stAlt, (upd a_stNext f (nI (s0 + 1))))) : wY_walk_81 post (k + 1) (nI pos) (nI step) f_tokenLimit (nI lim) (nI (ad_C g)) (nI (ad_M g)) f_hasCurrent f_compiled (nI n) (nI c) f_errPos (nI (f + 1)) f_lastViable a_altRule a_altStart a_altLen a_sym a_tok a_nSym a_nAlt a_nPar a_nStart a_nEnd a_nAmb a_ends a_pre a_flag a_beg a_reach a_stNode a_stAlt a_stNext := by
  have h24 := ad_wsy h.1 ha he
  have hC := h.1.1
  refine ys_sym h hs hf ha h1 h2 h3 he ?_
  refine br_t (nI_le (a := 16) h16 (by omega)) ?_
  rw [ad_16 h16]
  refine ay_ch h hi (by omega) hF (by omega) hb hv hlst ?_
  exact br_t (nI_pos' (by omega)) (br_t (nI_le hc (by omega)) (hp _))
end
end
section
/-! ===== both trees grow alike ===== -/
def ad_op (d : Nat) (nd : Nat → Nat) : Int32 := match d with
  | 0 => -1
  | f + 1 => nI (nd f)
theorem ad_op_eq (f : Nat) (nd : Nat → Nat) : (if f = 0 then -1 else nI (nd (f - 1))) = ad_op f nd := by
  cases f with
  | zero => exact if_pos rfl
  | succ f => exact if_neg (Nat.succ_ne_zero f)
section
variable {g : ad_G} {tk : Nat → Nat} {n : Nat}
theorem ad_vX_iff (w : ad_wf g) {col : Nat → Nat → Int32} (hx : ad_ex g tk n col) {G : Int32} {r p a : Nat} (ha : a < ad_C g) (hp : p ≤ 12) : ad_vX g n col G r p a = true ↔ ad_ru g a = r ∧ ∃ q, ad_ch (ad_E g tk n) (ad_sy g) (ad_st g a) (ad_ln g a) p q ∧ bt G q = true := by
  unfold ad_vX
  rw [Bool.and_eq_true, decide_eq_true_iff, decide_eq_true_iff, ad_and0]
  constructor
  · intro ⟨h1, h2⟩
    obtain ⟨q, h3, h4⟩ := Classical.byContradiction h2
    exact ⟨h1, q, (ad_ex_ch w hx ha (by omega) (by omega) p q).mp ((ad_ae_1 _ _ _ _ _ (by omega) q).mp h3), h4⟩
  · intro ⟨h1, q, h3, h4⟩
    exact ⟨h1, fun z => z ⟨q, (ad_ae_1 _ _ _ _ _ (by omega) q).mpr ((ad_ex_ch w hx ha (by omega) (by omega) p q).mpr h3), h4⟩⟩
theorem ad_vY_iff (w : ad_wf g) {col : Nat → Nat → Int32} (hx : ad_ex g tk n col) {r p a d : Nat} {sa sn : Nat → Nat} (hs : ∀ i, i < d → sa i < ad_C g ∧ sn i ≤ ad_ln g (sa i)) (ha : a < ad_C g) (hp : p ≤ 12) : ad_vY g n col sa sn d r p a = true ↔ ad_ru g a = r ∧ ∃ q, ad_ch (ad_E g tk n) (ad_sy g) (ad_st g a) (ad_ln g a) p q ∧ ad_Gs g (ad_E g tk n) n sa sn d q := by
  unfold ad_vY
  rw [Bool.and_eq_true, decide_eq_true_iff, ad_cm_b]
  constructor
  · intro ⟨h1, q, h3, h4⟩
    exact ⟨h1, q, (ad_ex_ch w hx ha (by omega) (by omega) p q).mp ((ad_ae_1 _ _ _ _ _ (by omega) q).mp h3), (ad_Gs_iff w hx d q hs).mp h4⟩
  · intro ⟨h1, q, h3, h4⟩
    exact ⟨h1, q, (ad_ae_1 _ _ _ _ _ (by omega) q).mpr ((ad_ex_ch w hx ha (by omega) (by omega) p q).mpr h3), (ad_Gs_iff w hx d q hs).mpr h4⟩
/-- the goals of a child -/
theorem ad_goals (w : ad_wf g) {col : Nat → Nat → Int32} (hx : ad_ex g tk n col) (hn : n ≤ 12) {sa sn : Nat → Nat} {f : Nat} {G0 : Int32} (ha : sa f < ad_C g) (hl : sn f < ad_ln g (sa f)) (hG : ∀ q, bt G0 q = true ↔ ad_Gs g (ad_E g tk n) n sa sn f q) (q : Nat) :
    bt (ad_gl n col (ad_sy g) (ad_st g (sa f) + ad_ln g (sa f)) (ad_st g (sa f) + ad_ln g (sa f) - (ad_st g (sa f) + sn f + 1)) G0) q = true ↔ ad_Gs g (ad_E g tk n) n sa (ad_set sn f (sn f + 1)) (f + 1) q := by
  rw [ad_gl_b (by omega) _ _ _ _ _ _ (by omega)]
  show _ ↔ ∃ q', ad_ch (ad_E g tk n) (ad_sy g) (ad_st g (sa f) + ad_set sn f (sn f + 1) f) (ad_ln g (sa f) - ad_set sn f (sn f + 1) f) q q' ∧ ad_Gs g (ad_E g tk n) n sa (ad_set sn f (sn f + 1)) f q'
  rw [ad_set_s, show ad_st g (sa f) + ad_ln g (sa f) - (ad_st g (sa f) + ad_ln g (sa f) - (ad_st g (sa f) + sn f + 1)) = ad_st g (sa f) + (sn f + 1) by omega, show ad_st g (sa f) + ad_ln g (sa f) - (ad_st g (sa f) + sn f + 1) = ad_ln g (sa f) - (sn f + 1) by omega]
  have hg : ∀ q', bt G0 q' = true ↔ ad_Gs g (ad_E g tk n) n sa (ad_set sn f (sn f + 1)) f q' := fun q' => (hG q').trans (ad_Gs_eq f q' fun i hi => ⟨rfl, by rw [ad_set_n (by omega)]⟩)
  constructor
  · intro ⟨q', h1, h2⟩
    exact ⟨q', (ad_ex_ch w hx ha (by omega) (by omega) q q').mp h1, (hg q').mp h2⟩
  · intro ⟨q', h1, h2⟩
    exact ⟨q', (ad_ex_ch w hx ha (by omega) (by omega) q q').mpr h1, (hg q').mpr h2⟩
end
section
variable {f_tokenLimit f_nodeLimit f_altCount f_symbolCount f_compiled f_inputLength f_resultSize f_resultError : Int32} {a_altRule a_altNumber a_altStart a_altEnd a_symbols a_input a_firstRules a_spans a_begun a_symbolOf a_altOf a_parentOf a_startOf a_endOf a_ambiguousOf a_nextSymbol a_stopSymbol a_goalsOf : Nat → Int32}
variable {y_f_tokenLimit y_f_nodeLimit y_f_altCount y_f_symCount y_f_hasCurrent y_f_compiled y_f_n y_f_count y_f_errPos y_f_depth y_f_lastViable : Int32} {y_a_altRule y_a_altStart y_a_altLen y_a_sym y_a_tok y_a_nSym y_a_nAlt y_a_nPar y_a_nStart y_a_nEnd y_a_nAmb y_a_ends y_a_pre y_a_flag y_a_beg y_a_reach y_a_stNode y_a_stAlt y_a_stNext : Nat → Int32}
variable {g : ad_G} {tk : Nat → Nat} {n : Nat}
theorem tr_lock {lim : Nat} (h : ad_hX g a_altRule a_altStart a_altEnd a_symbols) (hy : ad_hY g y_a_altRule y_a_altStart y_a_altLen y_a_sym) (hi : ad_hI tk n y_a_tok) (hx : ad_ex g tk n (ad_cX a_spans)) (hnum : ∀ b, b < ad_C g → a_altNumber b = nI (1 + ad_cn (fun i => decide (ad_ru g i = ad_ru g b)) b)) :
    ∀ (m c d pos step : Nat) (nd sa sn : Nat → Nat) (nx sto go sym alt par sta amb en yN yA yX yE : Nat → Int32), 128 ≤ step + m → ad_TI g tk n lim c d pos step nd sa sn nx sto go par alt amb en yN yA yX yE →
    ∃ (B B' : Int32) (c' : Nat) (sym' alt' par' sta' amb' en' yE' : Nat → Int32),
      ((B = 1 ∧ B' = 0 ∧ 1 ≤ c' ∧ c' ≤ 64 ∧ (∀ i, i < c' → en' i = yE' i)) ∨ (B = 0 ∧ B' = 1)) ∧ (∀ i, amb' i = 0 ∨ (amb' i = 1 ∧ 0 < alt' i)) ∧ (par 0 = -1 → par' 0 = -1) ∧
      (∀ (post : Int32 → SX → Prop) (k : Nat), m < k → (∀ nx' sto' go', post B (f_tokenLimit, (nI lim), (nI (ad_C g)), (nI (ad_M g)), f_compiled, (nI n), (nI c'), f_resultError, a_altRule, a_altNumber, a_altStart, a_altEnd, a_symbols, a_input, a_firstRules, a_spans, a_begun, sym', alt', par', sta', en', amb', nx', sto', go')) → wX_growTree_29 post k (ad_op d nd) (nI pos) (nI step) f_tokenLimit (nI lim) (nI (ad_C g)) (nI (ad_M g)) f_compiled (nI n) (nI c) f_resultError a_altRule a_altNumber a_altStart a_altEnd a_symbols a_input a_firstRules a_spans a_begun sym alt par sta en amb nx sto go) ∧
      (∀ (ye : Nat → Int32) (lv : Int32), ad_ex g tk n (ad_cY tk n ye) → ∀ (post : Int32 → SY → Prop) (k : Nat), m < k → (∀ lv' D' yN' yA' yX', post B' (y_f_tokenLimit, (nI lim), (nI (ad_C g)), (nI (ad_M g)), y_f_hasCurrent, y_f_compiled, (nI n), (nI c'), y_f_errPos, D', lv', y_a_altRule, y_a_altStart, y_a_altLen, y_a_sym, y_a_tok, sym', alt', par', sta', yE', amb', ye, y_a_pre, y_a_flag, y_a_beg, y_a_reach, yN', yA', yX')) → wY_walk_81 post k (nI pos) (nI step) y_f_tokenLimit (nI lim) (nI (ad_C g)) (nI (ad_M g)) y_f_hasCurrent y_f_compiled (nI n) (nI c) y_f_errPos (nI d) lv y_a_altRule y_a_altStart y_a_altLen y_a_sym y_a_tok sym alt par sta yE amb ye y_a_pre y_a_flag y_a_beg y_a_reach yN yA yX) := by
  have hn := hi.1
  have w := h.1
  have hM48 := w.2.1
  have hC16 := w.1
  intro m
  induction m with
  | zero =>
    intro c d pos step nd sa sn nx sto go sym alt par sta amb en yN yA yX yE hm hT
    obtain ⟨h1, h2, h3, h4, h5, h6, h7, h8, h9, h10⟩ := hT
    exact absurd hm (by omega)
  | succ m ih =>
    intro c d pos step nd sa sn nx sto go sym alt par sta amb en yN yA yX yE hm hT
    have hT0 := hT
    obtain ⟨h1, h2, h3, h4, h5, h6, h7, h8, h9, h10⟩ := hT0
    cases d with
    | zero =>
      refine ⟨1, 0, c, sym, alt, par, sta, amb, en, yE, Or.inl ⟨rfl, rfl, h1, by omega, fun i hi => h9 i hi (fun f hf => absurd hf (Nat.not_lt_zero f))⟩, h10, fun z => z, ?_, ?_⟩
      · intro post k hk hp
        obtain ⟨k, rfl⟩ : ∃ k', k = k' + 1 := ⟨k - 1, by omega⟩
        exact xs_end (by omega) (hp nx sto go)
      · intro ye lv hye post k hk hp
        obtain ⟨k, rfl⟩ : ∃ k', k = k' + 1 := ⟨k - 1, by omega⟩
        exact ys_end (by omega) (hp lv 0 yN yA yX)
    | succ f =>
      obtain ⟨b1, b2, b3, b4, b5, b6, b7, b8, b9, b10, b11⟩ := h8 f (by omega)
      have hst := (w.2.2.1 (sa f) b2).2
      by_cases hcl : sn f = ad_ln g (sa f)
      · obtain ⟨B, B', c', sym', alt', par', sta', amb', en', yE', hout, ham, hpr, hX, hY⟩ := ih c f pos (step + 1) nd sa sn nx sto go sym alt par sta amb _ yN yA yX _ (by omega) (ad_TI_close hT hcl)
        refine ⟨B, B', c', sym', alt', par', sta', amb', en', yE', hout, ham, hpr, ?_, ?_⟩
        · intro post k hk hp
          obtain ⟨k, rfl⟩ : ∃ k', k = k' + 1 := ⟨k - 1, by omega⟩
          refine xs_close (o := nd f) (by omega) (by omega) b7 b8 (by omega) (by omega) ?_
          rw [b9, ad_op_eq]
          exact hX post k (by omega) hp
        · intro ye lv hye post k hk hp
          obtain ⟨k, rfl⟩ : ∃ k', k = k' + 1 := ⟨k - 1, by omega⟩
          exact ys_close (o := nd f) hy (by omega) (by omega) (by omega) b2 b5 b6 b4 hcl (hY ye lv hye post k (by omega) hp)
      · have hl : sn f < ad_ln g (sa f) := by omega
        have hsy : a_symbols (ad_st g (sa f) + sn f) = nI (ad_sy g (ad_st g (sa f) + sn f)) := h.2.2 _ (by omega)
        have h24 := ad_wsy w b2 hl
        by_cases h16 : ad_sy g (ad_st g (sa f) + sn f) < 16
        · by_cases hfull : lim ≤ c
          · refine ⟨0, 1, c, sym, alt, par, sta, amb, en, yE, Or.inr ⟨rfl, rfl⟩, h10, fun z => z, ?_, ?_⟩
            · intro post k hk hp
              obtain ⟨k, rfl⟩ : ∃ k', k = k' + 1 := ⟨k - 1, by omega⟩
              exact xs_full (o := nd f) (by omega) (by omega) b7 b8 (by omega) (by omega) hfull (by omega) (hp nx sto go)
            · intro ye lv hye post k hk hp
              obtain ⟨k, rfl⟩ : ∃ k', k = k' + 1 := ⟨k - 1, by omega⟩
              exact ys_fullt (o := nd f) hy (by omega) (by omega) b2 b5 b6 b4 hl h16 hfull (by omega) (hp _ _ _ _ _)
          · obtain ⟨hpos, hT'⟩ := ad_TI_tok hT hl h16 (by omega) (nI (nd f))
            obtain ⟨B, B', c', sym', alt', par', sta', amb', en', yE', hout, ham, hpr, hX, hY⟩ := ih (c + 1) (f + 1) (pos + 1) (step + 1) nd sa _ _ sto go (upd sym c (nI (ad_sy g (ad_st g (sa f) + sn f)))) _ _ (upd sta c (nI pos)) _ _ yN yA _ _ (by omega) hT'
            refine ⟨B, B', c', sym', alt', par', sta', amb', en', yE', hout, ham, fun z => hpr (by rw [pk_un (by omega)]; exact z), ?_, ?_⟩
            · intro post k hk hp
              obtain ⟨k, rfl⟩ : ∃ k', k = k' + 1 := ⟨k - 1, by omega⟩
              exact xs_tok (o := nd f) (by omega) (by omega) b7 b8 (by omega) (by omega) (by omega) h3 hsy h16 (hX post k (by omega) hp)
            · intro ye lv hye post k hk hp
              obtain ⟨k, rfl⟩ : ∃ k', k = k' + 1 := ⟨k - 1, by omega⟩
              exact ys_tok (o := nd f) hy (by omega) (by omega) b2 b5 b6 b4 hl h16 (by omega) h3 hn hpos (hY ye lv hye post k (by omega) hp)
        · have hG := ad_goals w hx hn b2 hl b10
          generalize hGe : ad_gl n (ad_cX a_spans) (ad_sy g) (ad_st g (sa f) + ad_ln g (sa f)) (ad_st g (sa f) + ad_ln g (sa f) - (ad_st g (sa f) + sn f + 1)) (go (nd f)) = G at hG
          have hfr : ∀ i, i < f + 1 → sa i < ad_C g ∧ ad_set sn f (sn f + 1) i ≤ ad_ln g (sa i) := by
            intro i hi
            obtain ⟨z1, z2, z3, _⟩ := h8 i (by omega)
            refine ⟨z2, ?_⟩
            by_cases e : i = f
            · subst e; rw [ad_set_s]; omega
            · rw [ad_set_n e]; exact z3
          have hvv : ∀ ye, ad_ex g tk n (ad_cY tk n ye) → ∀ a, a < ad_C g → ad_vX g n (ad_cX a_spans) G (ad_sy g (ad_st g (sa f) + sn f) - 16) pos a = ad_vY g n (ad_cY tk n ye) sa (ad_set sn f (sn f + 1)) (f + 1) (ad_sy g (ad_st g (sa f) + sn f) - 16) pos a := by
            intro ye hye a ha
            refine Bool.eq_iff_iff.mpr ?_
            rw [ad_vX_iff w hx ha (by omega), ad_vY_iff w hye hfr ha (by omega)]
            exact ⟨fun ⟨z1, q, z2, z3⟩ => ⟨z1, q, z2, (hG q).mp z3⟩, fun ⟨z1, q, z2, z3⟩ => ⟨z1, q, z2, (hG q).mpr z3⟩⟩
          obtain ⟨a0, q0, z1, z2, z3, z4⟩ := ad_TI_some hT hl (by omega)
          obtain ⟨b, hb, hvb, hlb⟩ := ad_least (ad_vX g n (ad_cX a_spans) G (ad_sy g (ad_st g (sa f) + sn f) - 16) pos) (ad_C g) ⟨a0, z1, (ad_vX_iff w hx z1 (by omega)).mpr ⟨z2, q0, z3, (hG q0).mpr z4⟩⟩
          have hvbY : ∀ ye, ad_ex g tk n (ad_cY tk n ye) → ad_vY g n (ad_cY tk n ye) sa (ad_set sn f (sn f + 1)) (f + 1) (ad_sy g (ad_st g (sa f) + sn f) - 16) pos b = true := fun ye hye => by rw [← hvv ye hye b hb]; exact hvb
          have hlbY : ∀ ye, ad_ex g tk n (ad_cY tk n ye) → ∀ b', b' < b → ¬ ad_vY g n (ad_cY tk n ye) sa (ad_set sn f (sn f + 1)) (f + 1) (ad_sy g (ad_st g (sa f) + sn f) - 16) pos b' = true := fun ye hye b' hb' => by rw [← hvv ye hye b' (by omega)]; exact hlb b' hb'
          have hF : ad_yF g (f + 1) sa (ad_set sn f (sn f + 1)) yA (upd yX f (nI (sn f + 1))) := by
            intro i hi
            obtain ⟨y1, y2, y3, y4, y5, y6, _⟩ := h8 i (by omega)
            refine ⟨y5, ?_, hfr i hi⟩
            by_cases e : i = f
            · subst e; rw [pk_us, ad_set_s]
            · rw [pk_un e, ad_set_n e]; exact y6
          by_cases hfull : lim ≤ c
          · refine ⟨0, 1, c, sym, alt, par, sta, amb, en, yE, Or.inr ⟨rfl, rfl⟩, h10, fun z => z, ?_, ?_⟩
            · intro post k hk hp
              obtain ⟨k, rfl⟩ : ∃ k', k = k' + 1 := ⟨k - 1, by omega⟩
              exact xs_full (o := nd f) (by omega) (by omega) b7 b8 (by omega) (by omega) hfull (by omega) (hp nx sto go)
            · intro ye lv hye post k hk hp
              obtain ⟨k, rfl⟩ : ∃ k', k = k' + 1 := ⟨k - 1, by omega⟩
              exact ys_fullr (o := nd f) hy hi (by omega) (by omega) b2 b5 b6 b4 hl (by omega) hfull (by omega) hF hb (hvbY ye hye) (hlbY ye hye) (fun lv' => hp lv' _ _ _ _)
          · have hcn : ∀ ye, ad_ex g tk n (ad_cY tk n ye) → ad_cn (ad_vX g n (ad_cX a_spans) G (ad_sy g (ad_st g (sa f) + sn f) - 16) pos) (ad_C g) = ad_cn (ad_vY g n (ad_cY tk n ye) sa (ad_set sn f (sn f + 1)) (f + 1) (ad_sy g (ad_st g (sa f) + sn f) - 16) pos) (ad_C g) := fun ye hye => ad_cn_eq _ (hvv ye hye)
            have hcb := ad_cn_le (fun i => decide (ad_ru g i = ad_ru g b)) b
            obtain ⟨_, q1, y2, y3⟩ := (ad_vX_iff w hx hb (by omega)).mp hvb
            have hT' := ad_TI_rule (Y := nI pos) (num := nI (1 + ad_cn (fun i => decide (ad_ru g i = ad_ru g b)) b)) (am := if ad_cn (ad_vX g n (ad_cX a_spans) G (ad_sy g (ad_st g (sa f) + sn f) - 16) pos) (ad_C g) ≤ 1 then 0 else 1) hT hl (by omega) hb (nI_lt (a := 0) (by omega) (by omega)) (by split; exact Or.inl rfl; exact Or.inr rfl) hG ⟨q1, y2, y3⟩
            obtain ⟨B, B', c', sym', alt', par', sta', amb', en', yE', hout, ham, hpr, hX, hY⟩ := ih (c + 1) (f + 2) pos (step + 1) _ _ _ _ _ _ (upd sym c (nI (ad_sy g (ad_st g (sa f) + sn f) - 16))) _ _ (upd sta c (nI pos)) _ _ _ _ _ _ (by omega) hT'
            refine ⟨B, B', c', sym', alt', par', sta', amb', en', yE', hout, ham, fun z => hpr (by rw [pk_un (by omega)]; exact z), ?_, ?_⟩
            · intro post k hk hp
              obtain ⟨k, rfl⟩ : ∃ k', k = k' + 1 := ⟨k - 1, by omega⟩
              have hX := hX post k (by omega) hp
              rw [← hnum b hb, ← hGe] at hX
              rw [← hGe] at hvb hlb
              refine xs_rule (o := nd f) h hn (by omega) b1 b7 b8 rfl (by omega) (by omega) (by omega) h3 hsy (by omega) h24 hb hvb hlb ?_
              rw [show ad_op (f + 2) (ad_set nd (f + 1) c) = nI c from congrArg nI ad_set_s] at hX
              exact hX
            · intro ye lv hye post k hk hp
              obtain ⟨k, rfl⟩ : ∃ k', k = k' + 1 := ⟨k - 1, by omega⟩
              have hY := hY ye (nI (ad_cn (ad_vY g n (ad_cY tk n ye) sa (ad_set sn f (sn f + 1)) (f + 1) (ad_sy g (ad_st g (sa f) + sn f) - 16) pos) (ad_C g))) hye post k (by omega) hp
              rw [hcn ye hye] at hY
              exact ys_rule (o := nd f) hy hi (by omega) (by omega) b2 b5 b6 b4 hl (by omega) (by omega) h3 hF hb (hvbY ye hye) (hlbY ye hye) (fun lv' e => by rw [e]; exact hY)
end
end
section
/-! ===== both trees from the root ===== -/
section
variable {f_tokenLimit f_nodeLimit f_altCount f_symbolCount f_compiled f_inputLength f_resultSize f_resultError : Int32} {a_altRule a_altNumber a_altStart a_altEnd a_symbols a_input a_firstRules a_spans a_begun a_symbolOf a_altOf a_parentOf a_startOf a_endOf a_ambiguousOf a_nextSymbol a_stopSymbol a_goalsOf : Nat → Int32}
variable {y_f_tokenLimit y_f_nodeLimit y_f_altCount y_f_symCount y_f_hasCurrent y_f_compiled y_f_n y_f_count y_f_errPos y_f_depth y_f_lastViable : Int32} {y_a_altRule y_a_altStart y_a_altLen y_a_sym y_a_tok y_a_nSym y_a_nAlt y_a_nPar y_a_nStart y_a_nEnd y_a_nAmb y_a_ends y_a_pre y_a_flag y_a_beg y_a_reach y_a_stNode y_a_stAlt y_a_stNext : Nat → Int32}
variable {g : ad_G} {tk : Nat → Nat} {n : Nat}
theorem tr_all {lim : Nat} (h : ad_hX g a_altRule a_altStart a_altEnd a_symbols) (hy : ad_hY g y_a_altRule y_a_altStart y_a_altLen y_a_sym) (hi : ad_hI tk n y_a_tok) (hx : ad_ex g tk n (ad_cX a_spans)) (hnum : ∀ b, b < ad_C g → a_altNumber b = nI (1 + ad_cn (fun i => decide (ad_ru g i = ad_ru g b)) b)) (hl1 : 1 ≤ lim) (hl2 : lim ≤ 64) (hL : ad_LR g tk n 0 0 n) (sym alt par sta amb en yE : Nat → Int32) (hamb : ∀ i, amb i = 0 ∨ (amb i = 1 ∧ 0 < alt i)) :
    ∃ (B B' : Int32) (c' : Nat) (sym' alt' par' sta' amb' en' yE' : Nat → Int32),
      ((B = 1 ∧ B' = 0 ∧ 1 ≤ c' ∧ c' ≤ 64 ∧ (∀ i, i < c' → en' i = yE' i)) ∨ (B = 0 ∧ B' = 1)) ∧ (∀ i, amb' i = 0 ∨ (amb' i = 1 ∧ 0 < alt' i)) ∧ par' 0 = -1 ∧
      (∀ (post : Int32 → SX → Prop), (∀ nx' sto' go', post B (f_tokenLimit, (nI lim), (nI (ad_C g)), (nI (ad_M g)), f_compiled, (nI n), (nI c'), f_resultError, a_altRule, a_altNumber, a_altStart, a_altEnd, a_symbols, a_input, a_firstRules, a_spans, a_begun, sym', alt', par', sta', en', amb', nx', sto', go')) → wpX_growTree post (f_tokenLimit, (nI lim), (nI (ad_C g)), (nI (ad_M g)), f_compiled, (nI n), f_resultSize, f_resultError, a_altRule, a_altNumber, a_altStart, a_altEnd, a_symbols, a_input, a_firstRules, a_spans, a_begun, sym, alt, par, sta, en, amb, a_nextSymbol, a_stopSymbol, a_goalsOf)) ∧
      (∀ (ye : Nat → Int32), ad_ex g tk n (ad_cY tk n ye) → ∀ (post : Int32 → SY → Prop), (∀ lv' D' yN' yA' yX', post B' (y_f_tokenLimit, (nI lim), (nI (ad_C g)), (nI (ad_M g)), y_f_hasCurrent, y_f_compiled, (nI n), (nI c'), y_f_errPos, D', lv', y_a_altRule, y_a_altStart, y_a_altLen, y_a_sym, y_a_tok, sym', alt', par', sta', yE', amb', ye, y_a_pre, y_a_flag, y_a_beg, y_a_reach, yN', yA', yX')) → wpY_walk post (y_f_tokenLimit, (nI lim), (nI (ad_C g)), (nI (ad_M g)), y_f_hasCurrent, y_f_compiled, (nI n), y_f_count, y_f_errPos, y_f_depth, y_f_lastViable, y_a_altRule, y_a_altStart, y_a_altLen, y_a_sym, y_a_tok, sym, alt, par, sta, yE, amb, ye, y_a_pre, y_a_flag, y_a_beg, y_a_reach, y_a_stNode, y_a_stAlt, y_a_stNext)) := by
  have hn := hi.1
  have w := h.1
  have hC16 := w.1
  obtain ⟨a0, z1, z2, z3, z4⟩ := ad_LR_i hL
  generalize hGe : (1 : Int32) <<< (nI n &&& 31) = G
  have hG : ∀ q, bt G q = true ↔ q = n := fun q => by rw [← hGe]; exact ad_bit (by omega) q
  have hvv : ∀ ye, ad_ex g tk n (ad_cY tk n ye) → ∀ a, a < ad_C g → ad_vX g n (ad_cX a_spans) G 0 0 a = ad_vY g n (ad_cY tk n ye) (fun _ => 0) (fun _ => 0) 0 0 0 a := by
    intro ye hye a ha
    refine Bool.eq_iff_iff.mpr ?_
    rw [ad_vX_iff w hx ha (by omega), ad_vY_iff w hye (fun i hi => absurd hi (Nat.not_lt_zero i)) ha (by omega)]
    exact ⟨fun ⟨z1, q, z2, z3⟩ => ⟨z1, q, z2, (hG q).mp z3⟩, fun ⟨z1, q, z2, z3⟩ => ⟨z1, q, z2, (hG q).mpr z3⟩⟩
  obtain ⟨b, hb, hvb, hlb⟩ := ad_least (ad_vX g n (ad_cX a_spans) G 0 0) (ad_C g) ⟨a0, z1, (ad_vX_iff w hx z1 (by omega)).mpr ⟨z2, n, z4, (hG n).mpr rfl⟩⟩
  have hcb := ad_cn_le (fun i => decide (ad_ru g i = ad_ru g b)) b
  obtain ⟨_, q1, y2, y3⟩ := (ad_vX_iff w hx hb (by omega)).mp hvb
  have hq1 : q1 = n := (hG q1).mp y3
  subst hq1
  have hT : ad_TI g tk q1 lim 1 1 0 0 (fun _ => 0) (fun _ => b) (fun _ => 0) (upd a_nextSymbol 0 (nI (ad_st g b))) (upd a_stopSymbol 0 (nI (ad_st g b + ad_ln g b))) (upd a_goalsOf 0 G) (upd par 0 (-1)) (upd alt 0 (nI (1 + ad_cn (fun i => decide (ad_ru g i = ad_ru g b)) b))) (upd amb 0 (if ad_cn (ad_vX g q1 (ad_cX a_spans) G 0 0) (ad_C g) ≤ 1 then 0 else 1)) en (upd y_a_stNode 0 0) (upd y_a_stAlt 0 (nI b)) (upd y_a_stNext 0 0) (upd yE 0 0) := by
    refine ⟨by omega, hl1, hl2, by omega, by omega, by omega, ⟨q1, y2, rfl⟩, ?_, ?_, ?_⟩
    · intro f hf
      have e : f = 0 := by omega
      subst e
      exact ⟨by omega, hb, Nat.zero_le _, pk_us, pk_us, pk_us, pk_us, pk_us, pk_us, fun q => by rw [pk_us]; exact hG q, fun f' hf' => absurd hf' (Nat.not_lt_zero f')⟩
    · intro i hi' hne
      exact absurd (show (0 : Nat) = i by omega) (hne 0 (by omega))
    · intro i
      by_cases e : i = 0
      · subst e
        rw [pk_us, pk_us]
        split
        · exact Or.inl rfl
        · exact Or.inr ⟨rfl, nI_lt (a := 0) (by omega) (by omega)⟩
      · rw [pk_un e, pk_un e]; exact hamb i
  obtain ⟨B, B', c', sym', alt', par', sta', amb', en', yE', hout, ham, hpr, hX, hY⟩ := tr_lock (f_tokenLimit := f_tokenLimit) (f_compiled := f_compiled) (f_resultError := f_resultError) (a_input := a_input) (a_firstRules := a_firstRules) (a_begun := a_begun) (y_f_tokenLimit := y_f_tokenLimit) (y_f_hasCurrent := y_f_hasCurrent) (y_f_compiled := y_f_compiled) (y_f_errPos := y_f_errPos) (y_a_pre := y_a_pre) (y_a_flag := y_a_flag) (y_a_beg := y_a_beg) (y_a_reach := y_a_reach) h hy hi hx hnum 128 1 1 0 0 _ _ _ _ _ _ (upd sym 0 0) _ _ (upd sta 0 0) _ _ _ _ _ _ (by omega) hT
  refine ⟨B, B', c', sym', alt', par', sta', amb', en', yE', hout, ham, hpr pk_us, ?_, ?_⟩
  · intro post hp
    have hX := hX post 129 (by omega) hp
    rw [← hnum b hb] at hX
    unfold wpX_growTree
    dsimp only
    refine ax_an (c := 0) (by omega) ?_
    dsimp only
    rw [hGe]
    refine ax_ch (c := 0) (r := 0) (p := 0) h hn (by omega) (by omega) pk_us pk_us hb hvb hlb ?_
    rw [ad_uu, ad_uu]
    exact ⟨129, hX⟩
  · intro ye hye post hp
    have hvbY : ad_vY g q1 (ad_cY tk q1 ye) (fun _ => 0) (fun _ => 0) 0 0 0 b = true := by rw [← hvv ye hye b hb]; exact hvb
    have hlbY : ∀ b', b' < b → ¬ ad_vY g q1 (ad_cY tk q1 ye) (fun _ => 0) (fun _ => 0) 0 0 0 b' = true := fun b' hb' => by rw [← hvv ye hye b' (by omega)]; exact hlb b' hb'
    have hcn : ad_cn (ad_vX g q1 (ad_cX a_spans) G 0 0) (ad_C g) = ad_cn (ad_vY g q1 (ad_cY tk q1 ye) (fun _ => 0) (fun _ => 0) 0 0 0) (ad_C g) := ad_cn_eq _ (hvv ye hye)
    have hcl := ad_cn_le (ad_vY g q1 (ad_cY tk q1 ye) (fun _ => 0) (fun _ => 0) 0 0 0) (ad_C g)
    have hY := hY ye (nI (ad_cn (ad_vY g q1 (ad_cY tk q1 ye) (fun _ => 0) (fun _ => 0) 0 0 0) (ad_C g))) hye post 129 (by omega) hp
    rw [hcn] at hY
    have hpl : ∀ am : Int32, vp_nar .boolean am = am → am = (if ad_cn (ad_vY g q1 (ad_cY tk q1 ye) (fun _ => 0) (fun _ => 0) 0 0 0) (ad_C g) ≤ 1 then 0 else 1) → wY_walk_49 post 0 (nI b) am 0 (-1) (nI (1 + ad_cn (fun i => decide (ad_ru g i = ad_ru g b)) b)) 0 y_f_tokenLimit (nI lim) (nI (ad_C g)) (nI (ad_M g)) y_f_hasCurrent y_f_compiled (nI q1) 0 y_f_errPos 0 (nI (ad_cn (ad_vY g q1 (ad_cY tk q1 ye) (fun _ => 0) (fun _ => 0) 0 0 0) (ad_C g))) y_a_altRule y_a_altStart y_a_altLen y_a_sym y_a_tok sym alt par sta yE amb ye y_a_pre y_a_flag y_a_beg y_a_reach y_a_stNode y_a_stAlt y_a_stNext := by
      intro am ham eam
      refine ay_pl (c := 0) (by omega) ham ?_
      rw [eam]
      exact nm_e (nm_e (nm_e ⟨129, hY⟩))
    refine ay_ch (f_lastViable := y_f_lastViable) (d := 0) (r := 0) (p := 0) (sa := fun _ => 0) (sn := fun _ => 0) hy hi (by omega) (fun f hf => absurd hf (Nat.not_lt_zero f)) (by omega) hb hvbY hlbY ?_
    refine br_t (nI_pos' (by omega)) (ay_an hy hb ?_)
    refine pk_lt (ad_cn (ad_vY g q1 (ad_cY tk q1 ye) (fun _ => 0) (fun _ => 0) 0 0 0) (ad_C g)) 2 (fun z => hpl 0 ad_nb0 ?_) (fun z => hpl 1 ad_nb1 ?_)
    · rw [if_pos (by omega)]
    · rw [if_neg (by omega)]
end
end
section
/-! ===== the relation ===== -/
def ad_R (g : ad_G) (tk : Nat → Nat) (n lim tl c : Nat) (cp hc : Int32) (aR aN aS aE aL sm tok ao po am eo yeo : Nat → Int32) : Prop :=
  ad_hX g aR aS aE sm ∧ ad_hY g aR aS aL sm ∧ ad_hI tk n tok ∧ (∀ b, b < ad_C g → aN b = nI (1 + ad_cn (fun i => decide (ad_ru g i = ad_ru g b)) b)) ∧ (n ≤ tl ∧ 1 ≤ tl ∧ tl ≤ 12 ∧ 8 ≤ lim ∧ lim ≤ 64 ∧ c ≤ 64) ∧ (hc = if ad_C g = 0 then 0 else 1) ∧
    (0 < ad_C g → ad_st g (ad_C g - 1) + ad_ln g (ad_C g - 1) = ad_M g) ∧ (cp = 0 ∨ (cp = 1 ∧ ad_RK g)) ∧ (∀ i, i < c → eo i = yeo i) ∧ (0 < c → po 0 = -1) ∧ (∀ i, am i = 0 ∨ (am i = 1 ∧ 0 < ao i))
/-- both states hold the same grammar, input and result -/
def i_Rel (_ : Nat) (u : SX) (v : SY) : Prop :=
  ∃ (g : ad_G) (tk : Nat → Nat) (n lim tl c : Nat) (f_compiled f_resultError hc yD yL : Int32) (a_altRule a_altNumber a_altStart a_altEnd a_symbols a_input a_firstRules a_spans a_begun a_symbolOf a_altOf a_parentOf a_startOf a_endOf a_ambiguousOf a_nextSymbol a_stopSymbol a_goalsOf : Nat → Int32) (aL yE en pr fl bg re yN yA yX : Nat → Int32),
    u = ((nI tl), (nI lim), (nI (ad_C g)), (nI (ad_M g)), f_compiled, (nI n), (nI c), f_resultError, a_altRule, a_altNumber, a_altStart, a_altEnd, a_symbols, a_input, a_firstRules, a_spans, a_begun, a_symbolOf, a_altOf, a_parentOf, a_startOf, a_endOf, a_ambiguousOf, a_nextSymbol, a_stopSymbol, a_goalsOf) ∧
    v = ((nI tl), (nI lim), (nI (ad_C g)), (nI (ad_M g)), hc, f_compiled, (nI n), (nI c), f_resultError, yD, yL, a_altRule, a_altStart, aL, a_symbols, a_input, a_symbolOf, a_altOf, a_parentOf, a_startOf, yE, a_ambiguousOf, en, pr, fl, bg, re, yN, yA, yX) ∧
    ad_R g tk n lim tl c f_compiled hc a_altRule a_altNumber a_altStart a_altEnd aL a_symbols a_input a_altOf a_parentOf a_ambiguousOf a_endOf yE
theorem ad_mk {k : Nat} {g : ad_G} {tk : Nat → Nat} {n lim tl c : Nat} {f_compiled f_resultError hc yD yL : Int32} {a_altRule a_altNumber a_altStart a_altEnd a_symbols a_input a_firstRules a_spans a_begun a_symbolOf a_altOf a_parentOf a_startOf a_endOf a_ambiguousOf a_nextSymbol a_stopSymbol a_goalsOf : Nat → Int32} {aL yE en pr fl bg re yN yA yX : Nat → Int32}
    (h : ad_R g tk n lim tl c f_compiled hc a_altRule a_altNumber a_altStart a_altEnd aL a_symbols a_input a_altOf a_parentOf a_ambiguousOf a_endOf yE) :
    i_Rel k ((nI tl), (nI lim), (nI (ad_C g)), (nI (ad_M g)), f_compiled, (nI n), (nI c), f_resultError, a_altRule, a_altNumber, a_altStart, a_altEnd, a_symbols, a_input, a_firstRules, a_spans, a_begun, a_symbolOf, a_altOf, a_parentOf, a_startOf, a_endOf, a_ambiguousOf, a_nextSymbol, a_stopSymbol, a_goalsOf) ((nI tl), (nI lim), (nI (ad_C g)), (nI (ad_M g)), hc, f_compiled, (nI n), (nI c), f_resultError, yD, yL, a_altRule, a_altStart, aL, a_symbols, a_input, a_symbolOf, a_altOf, a_parentOf, a_startOf, yE, a_ambiguousOf, en, pr, fl, bg, re, yN, yA, yX) :=
  ⟨g, tk, n, lim, tl, c, f_compiled, f_resultError, hc, yD, yL, a_altRule, a_altNumber, a_altStart, a_altEnd, a_symbols, a_input, a_firstRules, a_spans, a_begun, a_symbolOf, a_altOf, a_parentOf, a_startOf, a_endOf, a_ambiguousOf, a_nextSymbol, a_stopSymbol, a_goalsOf, aL, yE, en, pr, fl, bg, re, yN, yA, yX, rfl, rfl, h⟩
section
variable {g g' : ad_G} {tk tk' : Nat → Nat} {n lim tl c : Nat} {cp hc : Int32} {aR aN aS aE aL sm tok ao po am eo yeo : Nat → Int32}
theorem ad_R_begin (h : ad_R g tk n lim tl c cp hc aR aN aS aE aL sm tok ao po am eo yeo) (hC : ad_C g < 16) {r : Nat} (hr : r < 8) (eC : ad_C g' = ad_C g + 1) (eM : ad_M g' = ad_M g) (eru : ad_ru g' = ad_set (ad_ru g) (ad_C g) r) (est : ad_st g' = ad_set (ad_st g) (ad_C g) (ad_M g)) (eln : ad_ln g' = ad_set (ad_ln g) (ad_C g) 0) (esy : ad_sy g' = ad_sy g) :
    ad_R g' tk n lim tl c 0 1 (upd aR (ad_C g) (nI r)) (upd aN (ad_C g) (nI (1 + ad_cn (fun i => decide (ad_ru g i = r)) (ad_C g)))) (upd aS (ad_C g) (nI (ad_M g))) (upd aE (ad_C g) (nI (ad_M g))) (upd aL (ad_C g) 0) sm tok ao po am eo yeo := by
  obtain ⟨⟨w, h1, h2⟩, ⟨_, h3, _⟩, h4, h5, h6, h7, h8, h9, h10, h11, h12⟩ := h
  obtain ⟨w1, w2, w3, w4⟩ := w
  have w' : ad_wf g' := by
    refine ⟨by omega, by omega, ?_, ?_⟩
    · intro a ha
      rw [eru, est, eln, eM]
      by_cases e : a = ad_C g
      · subst e; rw [ad_set_s, ad_set_s, ad_set_s]; omega
      · rw [ad_set_n e, ad_set_n e, ad_set_n e]; exact w3 a (by omega)
    · rw [eM, esy]; exact w4
  refine ⟨⟨w', ?_, ?_⟩, ⟨w', ?_, ?_⟩, h4, ?_, h6, ?_, ?_, Or.inl rfl, h10, h11, h12⟩
  · intro a ha
    rw [eru, est, eln]
    by_cases e : a = ad_C g
    · subst e; rw [ad_set_s, ad_set_s, ad_set_s, pk_us, pk_us, pk_us]; exact ⟨rfl, rfl, rfl⟩
    · rw [ad_set_n e, ad_set_n e, ad_set_n e, pk_un e, pk_un e, pk_un e]; exact h1 a (by omega)
  · rw [eM, esy]; exact h2
  · intro a ha
    rw [eru, est, eln]
    by_cases e : a = ad_C g
    · subst e; rw [ad_set_s, ad_set_s, ad_set_s, pk_us, pk_us, pk_us]; exact ⟨rfl, rfl, rfl⟩
    · rw [ad_set_n e, ad_set_n e, ad_set_n e, pk_un e, pk_un e, pk_un e]; exact h3 a (by omega)
  · rw [eM, esy]; exact h2
  · intro b hb
    rw [eru]
    by_cases e : b = ad_C g
    · subst e
      rw [pk_us, ad_set_s, ad_cn_eq (P := fun i => decide (ad_ru g i = r)) (Q := fun i => decide (ad_set (ad_ru g) (ad_C g) r i = r)) (ad_C g) fun i hi => by rw [ad_set_n (by omega)]]
    · rw [pk_un e, ad_set_n e, h5 b (by omega), ad_cn_eq (P := fun i => decide (ad_ru g i = ad_ru g b)) (Q := fun i => decide (ad_set (ad_ru g) (ad_C g) r i = ad_ru g b)) b fun i hi => by rw [ad_set_n (by omega)]]
  · rw [eC, if_neg (Nat.succ_ne_zero _)]
  · intro _
    rw [eC, est, eln, eM, Nat.add_sub_cancel, ad_set_s, ad_set_s]
    rfl
theorem ad_R_app (h : ad_R g tk n lim tl c cp hc aR aN aS aE aL sm tok ao po am eo yeo) (hC : 0 < ad_C g) (hM : ad_M g < 48) {s : Nat} (hs : s < 24) (eC : ad_C g' = ad_C g) (eM : ad_M g' = ad_M g + 1) (eru : ad_ru g' = ad_ru g) (est : ad_st g' = ad_st g) (eln : ad_ln g' = ad_set (ad_ln g) (ad_C g - 1) (ad_ln g (ad_C g - 1) + 1)) (esy : ad_sy g' = ad_set (ad_sy g) (ad_M g) s) :
    ad_R g' tk n lim tl c 0 hc aR aN aS (upd aE (ad_C g - 1) (nI (ad_M g + 1))) (upd aL (ad_C g - 1) (nI (ad_ln g (ad_C g - 1) + 1))) (upd sm (ad_M g) (nI s)) tok ao po am eo yeo := by
  obtain ⟨⟨w, h1, h2⟩, ⟨_, h3, _⟩, h4, h5, h6, h7, h8, h9, h10, h11, h12⟩ := h
  obtain ⟨w1, w2, w3, w4⟩ := w
  have h8 := h8 hC
  have w' : ad_wf g' := by
    refine ⟨by omega, by omega, ?_, ?_⟩
    · intro a ha
      rw [eru, est, eln, eM]
      have := w3 a (by omega)
      by_cases e : a = ad_C g - 1
      · subst e; rw [ad_set_s]; omega
      · rw [ad_set_n e]; omega
    · intro i hi
      rw [esy]
      by_cases e : i = ad_M g
      · subst e; rw [ad_set_s]; exact hs
      · rw [ad_set_n e]; exact w4 i (by omega)
  have hsm : ∀ i, i < ad_M g' → upd sm (ad_M g) (nI s) i = nI (ad_sy g' i) := by
    intro i hi
    rw [esy]
    by_cases e : i = ad_M g
    · subst e; rw [ad_set_s, pk_us]
    · rw [ad_set_n e, pk_un e]; exact h2 i (by omega)
  refine ⟨⟨w', ?_, hsm⟩, ⟨w', ?_, hsm⟩, h4, ?_, h6, ?_, ?_, Or.inl rfl, h10, h11, h12⟩
  · intro a ha
    rw [eru, est, eln]
    obtain ⟨z1, z2, z3⟩ := h1 a (by omega)
    by_cases e : a = ad_C g - 1
    · subst e; rw [ad_set_s, pk_us]; exact ⟨z1, z2, congrArg nI (by omega)⟩
    · rw [ad_set_n e, pk_un e]; exact ⟨z1, z2, z3⟩
  · intro a ha
    rw [eru, est, eln]
    obtain ⟨z1, z2, z3⟩ := h3 a (by omega)
    by_cases e : a = ad_C g - 1
    · subst e; rw [ad_set_s, pk_us]; exact ⟨z1, z2, rfl⟩
    · rw [ad_set_n e, pk_un e]; exact ⟨z1, z2, z3⟩
  · rw [eC, eru]; exact h5
  · rw [eC]; exact h7
  · intro _
    rw [eC, est, eln, eM, ad_set_s]
    omega
theorem ad_R_tok (h : ad_R g tk n lim tl c cp hc aR aN aS aE aL sm tok ao po am eo yeo) (hn : n < tl) {t : Nat} (ht : t < 16) :
    ad_R g (ad_set tk n t) (n + 1) lim tl c cp hc aR aN aS aE aL sm (upd tok n (nI t)) ao po am eo yeo := by
  obtain ⟨h1, h2, h4, h5, h6, h7⟩ := h
  refine ⟨h1, h2, ⟨by omega, ?_⟩, h5, by omega, h7⟩
  intro i hi
  by_cases e : i = n
  · subst e; rw [ad_set_s, pk_us]; exact ⟨ht, rfl⟩
  · rw [ad_set_n e, pk_un e]; exact h4.2 i (by omega)
end
/-! ===== numbers out of range ===== -/
theorem ad_big {x : Int32} {m : Nat} (hm : m + 1 < 2 ^ 31) (h : nI (m + 1) ≤ x) : ¬ x < 0 ∧ ¬ x ≤ nI m ∧ nI m < x := by
  rw [Int32.le_iff_toInt_le, nI_toInt hm] at h
  rw [Int32.lt_iff_toInt_lt, Int32.le_iff_toInt_le, Int32.lt_iff_toInt_lt, nI_toInt (by omega), show (0 : Int32).toInt = 0 from by decide]
  omega
theorem ad_cl (lo hi : Nat) (hl : lo ≤ hi) (hh : hi < 2 ^ 31) (x : Int32) : ∃ t, lo ≤ t ∧ t ≤ hi ∧ ∀ P : Int32 → Prop, P (nI t) → ((nI lo ≤ x → ((x ≤ nI hi → P x) ∧ (¬ x ≤ nI hi → P (nI hi)))) ∧ (¬ nI lo ≤ x → P (nI lo))) := by
  by_cases h1 : nI lo ≤ x
  · by_cases h2 : x ≤ nI hi
    · have h0 : ¬ x < 0 := by
        rw [Int32.le_iff_toInt_le, nI_toInt (by omega)] at h1
        rw [Int32.lt_iff_toInt_lt, show (0 : Int32).toInt = 0 from by decide]
        omega
      obtain ⟨j, hj, rfl⟩ := nI_of h0
      rw [nI_leI (by omega) hj] at h1
      rw [nI_leI hj hh] at h2
      refine ⟨j, h1, h2, fun P hp => br_t (nI_le h1 hj) (br_t (nI_le h2 hh) hp)⟩
    · exact ⟨hi, hl, Nat.le_refl hi, fun P hp => br_t h1 (br_f h2 hp)⟩
  · exact ⟨lo, Nat.le_refl lo, hl, fun P hp => br_f h1 hp⟩
end
section
theorem i_up {k : Nat} {u : SX} {v : SY} (h : i_Rel k u v) : i_Rel (k + 2) u v := h
theorem ax_cl {lo hi t : Nat} {x : Int32} {P : Int32 → Prop} (h : ∀ P : Int32 → Prop, P (nI t) → ((nI lo ≤ x → ((x ≤ nI hi → P x) ∧ (¬ x ≤ nI hi → P (nI hi)))) ∧ (¬ nI lo ≤ x → P (nI lo)))) (hp : P (nI t)) : wpX_clamp P x (nI lo) (nI hi) := h P hp
theorem i_vc0 (k0 : Int32) (k1 : Int32) : wpX_init (fun u => wpY_init (fun v => i_Rel 2 u v) k0 k1) k0 k1 := by
  obtain ⟨tl, t1, t2, ht⟩ := ad_cl 1 12 (by omega) (by omega) k0
  obtain ⟨lim, l1, l2, hl⟩ := ad_cl 8 64 (by omega) (by omega) k1
  unfold wpX_init
  refine ax_cl ht (ax_cl hl ?_)
  unfold wpY_init
  refine ht (fun z => wY_init_178 (fun v => i_Rel 2 (nI tl, nI lim, 0, 0, 0, 0, 0, 0, (fun _ => 0), (fun _ => 0), (fun _ => 0), (fun _ => 0), (fun _ => 0), (fun _ => 0), (fun _ => 0), (fun _ => 0), (fun _ => 0), (fun _ => 0), (fun _ => 0), (fun _ => 0), (fun _ => 0), (fun _ => 0), (fun _ => 0), (fun _ => 0), (fun _ => 0), (fun _ => 0)) v) k1 z 0 0 0 0 0 0 0 0 0 0 0 (fun _ => 0) (fun _ => 0) (fun _ => 0) (fun _ => 0) (fun _ => 0) (fun _ => 0) (fun _ => 0) (fun _ => 0) (fun _ => 0) (fun _ => 0) (fun _ => 0) (fun _ => 0) (fun _ => 0) (fun _ => 0) (fun _ => 0) (fun _ => 0) (fun _ => 0) (fun _ => 0) (fun _ => 0)) ?_
  unfold wY_init_178
  refine hl (fun z => i_Rel 2 (nI tl, nI lim, 0, 0, 0, 0, 0, 0, (fun _ => 0), (fun _ => 0), (fun _ => 0), (fun _ => 0), (fun _ => 0), (fun _ => 0), (fun _ => 0), (fun _ => 0), (fun _ => 0), (fun _ => 0), (fun _ => 0), (fun _ => 0), (fun _ => 0), (fun _ => 0), (fun _ => 0), (fun _ => 0), (fun _ => 0), (fun _ => 0)) (nI tl, z, 0, 0, 0, 0, 0, 0, 0, 0, 0, (fun _ => 0), (fun _ => 0), (fun _ => 0), (fun _ => 0), (fun _ => 0), (fun _ => 0), (fun _ => 0), (fun _ => 0), (fun _ => 0), (fun _ => 0), (fun _ => 0), (fun _ => 0), (fun _ => 0), (fun _ => 0), (fun _ => 0), (fun _ => 0), (fun _ => 0), (fun _ => 0), (fun _ => 0))) ?_
  refine ad_mk (g := (0, 0, fun _ => 0, fun _ => 0, fun _ => 0, fun _ => 0)) (k := 2) (tk := fun _ => 0) (n := 0) (c := 0) ?_
  have w : ad_wf (0, 0, fun _ => 0, fun _ => 0, fun _ => 0, fun _ => 0) := ⟨Nat.zero_le _, Nat.zero_le _, fun a ha => absurd ha (Nat.not_lt_zero a), fun a ha => absurd ha (Nat.not_lt_zero a)⟩
  exact ⟨⟨w, fun a ha => absurd ha (Nat.not_lt_zero a), fun a ha => absurd ha (Nat.not_lt_zero a)⟩, ⟨w, fun a ha => absurd ha (Nat.not_lt_zero a), fun a ha => absurd ha (Nat.not_lt_zero a)⟩, ⟨by omega, fun a ha => absurd ha (Nat.not_lt_zero a)⟩, fun a ha => absurd ha (Nat.not_lt_zero a), ⟨by omega, t1, t2, l1, l2, by omega⟩, rfl, fun z => absurd z (Nat.lt_irrefl 0), Or.inl rfl, fun _ _ => rfl, fun z => absurd z (Nat.lt_irrefl 0), fun _ => Or.inl rfl⟩
theorem i_vc_clearGrammar {k : Nat} {u : SX} {v : SY} (I : i_Rel k u v) (hk : k + 2 ≤ 1026) : wpX_clearGrammar (fun u' => wpY_clearGrammar (fun v' => i_Rel (k + 2) u' v') v) u := by
  obtain ⟨g, tk, n, lim, tl, c, f_compiled, f_resultError, hc, yD, yL, a_altRule, a_altNumber, a_altStart, a_altEnd, a_symbols, a_input, a_firstRules, a_spans, a_begun, a_symbolOf, a_altOf, a_parentOf, a_startOf, a_endOf, a_ambiguousOf, a_nextSymbol, a_stopSymbol, a_goalsOf, aL, yE, en, pr, fl, bg, re, yN, yA, yX, rfl, rfl, hR⟩ := I
  obtain ⟨h1, h2, h4, h5, h6, h7, h8, h9, h10, h11, h12⟩ := hR
  unfold wpX_clearGrammar wpY_clearGrammar
  dsimp only
  refine ad_mk (k := k + 2) (g := (0, 0, fun _ => 0, fun _ => 0, fun _ => 0, fun _ => 0)) (tk := tk) ?_
  have w : ad_wf (0, 0, fun _ => 0, fun _ => 0, fun _ => 0, fun _ => 0) := ⟨Nat.zero_le _, Nat.zero_le _, fun a ha => absurd ha (Nat.not_lt_zero a), fun a ha => absurd ha (Nat.not_lt_zero a)⟩
  exact ⟨⟨w, fun a ha => absurd ha (Nat.not_lt_zero a), fun a ha => absurd ha (Nat.not_lt_zero a)⟩, ⟨w, fun a ha => absurd ha (Nat.not_lt_zero a), fun a ha => absurd ha (Nat.not_lt_zero a)⟩, h4, fun a ha => absurd ha (Nat.not_lt_zero a), h6, rfl, fun z => absurd z (Nat.lt_irrefl 0), Or.inl rfl, h10, h11, h12⟩
theorem i_vc_clearInput {k : Nat} {u : SX} {v : SY} (I : i_Rel k u v) (hk : k + 2 ≤ 1026) : wpX_clearInput (fun u' => wpY_clearInput (fun v' => i_Rel (k + 2) u' v') v) u := by
  obtain ⟨g, tk, n, lim, tl, c, f_compiled, f_resultError, hc, yD, yL, a_altRule, a_altNumber, a_altStart, a_altEnd, a_symbols, a_input, a_firstRules, a_spans, a_begun, a_symbolOf, a_altOf, a_parentOf, a_startOf, a_endOf, a_ambiguousOf, a_nextSymbol, a_stopSymbol, a_goalsOf, aL, yE, en, pr, fl, bg, re, yN, yA, yX, rfl, rfl, hR⟩ := I
  obtain ⟨h1, h2, h4, h5, h6, h7⟩ := hR
  unfold wpX_clearInput wpY_clearInput
  dsimp only
  refine ad_mk (k := k + 2) (g := g) (tk := tk) (n := 0) ?_
  exact ⟨h1, h2, ⟨by omega, fun i hi => absurd hi (Nat.not_lt_zero i)⟩, h5, by omega, h7⟩
theorem i_vc_token {k : Nat} {u : SX} {v : SY} (I : i_Rel k u v) (hk : k + 2 ≤ 1026) (v1 : Int32) : wpX_token (fun r u' => wpY_token (fun r' v' => r' = r ∧ i_Rel (k + 2) u' v') v v1) u v1 := by
  obtain ⟨g, tk, n, lim, tl, c, f_compiled, f_resultError, hc, yD, yL, a_altRule, a_altNumber, a_altStart, a_altEnd, a_symbols, a_input, a_firstRules, a_spans, a_begun, a_symbolOf, a_altOf, a_parentOf, a_startOf, a_endOf, a_ambiguousOf, a_nextSymbol, a_stopSymbol, a_goalsOf, aL, yE, en, pr, fl, bg, re, yN, yA, yX, rfl, rfl, hR⟩ := I
  have h6 := hR.2.2.2.2.1
  rcases pk_ix v1 (n := 16) (by omega) with z | z | ⟨t, ht, rfl⟩
  · exact br_t z (br_t z ⟨rfl, ad_mk (k := k + 2) hR⟩)
  · obtain ⟨z1, z2, z3⟩ := ad_big (m := 15) (by omega) z
    exact br_f z1 (br_t z (br_f z1 (br_t z3 ⟨rfl, ad_mk (k := k + 2) hR⟩)))
  · refine br_f (nI_pos (by omega)) (br_f (nI_ge (b := 16) ht (by decide)) (pk_lt n tl (fun z => ?_) (fun z => ?_)))
    · have hin : vp_in (nI n) 12 := vp_in_nI (by omega) (by omega)
      refine ⟨hin, nm_r (e' := upd a_input n (nI t)) (by rw [nI_clamp (by omega)]) (nm_r (nI_1 n) ?_)⟩
      refine br_f (nI_pos (by omega)) (br_f (nI_nlt (a := 15) (Nat.le_of_lt_succ ht) (by decide)) (br_t (nI_lt z (by omega)) ⟨hin, nm_r (e' := upd a_input n (nI t)) (by rw [nI_clamp (by omega)]) (nm_r (nI_1 n) ⟨rfl, ad_mk (k := k + 2) (ad_R_tok hR z ht)⟩)⟩))
    · exact br_f (nI_pos (by omega)) (br_f (nI_nlt (a := 15) (Nat.le_of_lt_succ ht) (by decide)) (br_f (nI_nlt z (by omega)) ⟨rfl, ad_mk (k := k + 2) hR⟩))
theorem i_vc_errorPosition {k : Nat} {u : SX} {v : SY} (I : i_Rel k u v) (hk : k + 2 ≤ 1026) : wpX_errorPosition (fun r => wpY_errorPosition (fun r' => r' = r ∧ i_Rel (k + 2) u v) v) u := by
  obtain ⟨g, tk, n, lim, tl, c, f_compiled, f_resultError, hc, yD, yL, a_altRule, a_altNumber, a_altStart, a_altEnd, a_symbols, a_input, a_firstRules, a_spans, a_begun, a_symbolOf, a_altOf, a_parentOf, a_startOf, a_endOf, a_ambiguousOf, a_nextSymbol, a_stopSymbol, a_goalsOf, aL, yE, en, pr, fl, bg, re, yN, yA, yX, rfl, rfl, hR⟩ := I
  exact ⟨rfl, ad_mk (k := k + 2) hR⟩
theorem i_vc_nodeCount {k : Nat} {u : SX} {v : SY} (I : i_Rel k u v) (hk : k + 2 ≤ 1026) : wpX_nodeCount (fun r => wpY_nodeCount (fun r' => r' = r ∧ i_Rel (k + 2) u v) v) u := by
  obtain ⟨g, tk, n, lim, tl, c, f_compiled, f_resultError, hc, yD, yL, a_altRule, a_altNumber, a_altStart, a_altEnd, a_symbols, a_input, a_firstRules, a_spans, a_begun, a_symbolOf, a_altOf, a_parentOf, a_startOf, a_endOf, a_ambiguousOf, a_nextSymbol, a_stopSymbol, a_goalsOf, aL, yE, en, pr, fl, bg, re, yN, yA, yX, rfl, rfl, hR⟩ := I
  exact ⟨rfl, ad_mk (k := k + 2) hR⟩
theorem i_vc_nodeSymbol {k : Nat} {u : SX} {v : SY} (I : i_Rel k u v) (hk : k + 2 ≤ 1026) (v1 : Int32) : wpX_nodeSymbol (fun r => wpY_nodeSymbol (fun r' => r' = r ∧ i_Rel (k + 2) u v) v v1) u v1 := by
  obtain ⟨g, tk, n, lim, tl, c, f_compiled, f_resultError, hc, yD, yL, a_altRule, a_altNumber, a_altStart, a_altEnd, a_symbols, a_input, a_firstRules, a_spans, a_begun, a_symbolOf, a_altOf, a_parentOf, a_startOf, a_endOf, a_ambiguousOf, a_nextSymbol, a_stopSymbol, a_goalsOf, aL, yE, en, pr, fl, bg, re, yN, yA, yX, rfl, rfl, hR⟩ := I
  have h6 := hR.2.2.2.2.1
  unfold wpX_nodeSymbol
  dsimp only
  rcases pk_ix v1 (n := c) (by omega) with z | z | ⟨t, ht, rfl⟩
  · exact br_t z (br_t rfl (br_t z ⟨rfl, ad_mk (k := k + 2) hR⟩))
  · by_cases z0 : v1 < 0
    · exact br_t z0 (br_t rfl (br_t z0 ⟨rfl, ad_mk (k := k + 2) hR⟩))
    · exact br_f z0 (br_t z (br_t rfl (br_f z0 (br_f (Int32.not_lt.mpr z) ⟨rfl, ad_mk (k := k + 2) hR⟩))))
  · have hin : vp_in (nI t) 64 := vp_in_nI (by omega) (by omega)
    exact br_f (nI_pos (by omega)) (br_f (nI_ge ht (by omega)) (br_f (by decide) ⟨hin, br_f (nI_pos (by omega)) (br_t (nI_lt ht (by omega)) ⟨hin, rfl, ad_mk (k := k + 2) hR⟩)⟩))
theorem i_vc_nodeAlt {k : Nat} {u : SX} {v : SY} (I : i_Rel k u v) (hk : k + 2 ≤ 1026) (v1 : Int32) : wpX_nodeAlt (fun r => wpY_nodeAlt (fun r' => r' = r ∧ i_Rel (k + 2) u v) v v1) u v1 := by
  obtain ⟨g, tk, n, lim, tl, c, f_compiled, f_resultError, hc, yD, yL, a_altRule, a_altNumber, a_altStart, a_altEnd, a_symbols, a_input, a_firstRules, a_spans, a_begun, a_symbolOf, a_altOf, a_parentOf, a_startOf, a_endOf, a_ambiguousOf, a_nextSymbol, a_stopSymbol, a_goalsOf, aL, yE, en, pr, fl, bg, re, yN, yA, yX, rfl, rfl, hR⟩ := I
  have h6 := hR.2.2.2.2.1
  unfold wpX_nodeAlt
  dsimp only
  rcases pk_ix v1 (n := c) (by omega) with z | z | ⟨t, ht, rfl⟩
  · exact br_t z (br_t rfl (br_t z ⟨rfl, ad_mk (k := k + 2) hR⟩))
  · by_cases z0 : v1 < 0
    · exact br_t z0 (br_t rfl (br_t z0 ⟨rfl, ad_mk (k := k + 2) hR⟩))
    · exact br_f z0 (br_t z (br_t rfl (br_f z0 (br_f (Int32.not_lt.mpr z) ⟨rfl, ad_mk (k := k + 2) hR⟩))))
  · have hin : vp_in (nI t) 64 := vp_in_nI (by omega) (by omega)
    exact br_f (nI_pos (by omega)) (br_f (nI_ge ht (by omega)) (br_f (by decide) ⟨hin, br_f (nI_pos (by omega)) (br_t (nI_lt ht (by omega)) ⟨hin, rfl, ad_mk (k := k + 2) hR⟩)⟩))
theorem i_vc_nodeParent {k : Nat} {u : SX} {v : SY} (I : i_Rel k u v) (hk : k + 2 ≤ 1026) (v1 : Int32) : wpX_nodeParent (fun r => wpY_nodeParent (fun r' => r' = r ∧ i_Rel (k + 2) u v) v v1) u v1 := by
  obtain ⟨g, tk, n, lim, tl, c, f_compiled, f_resultError, hc, yD, yL, a_altRule, a_altNumber, a_altStart, a_altEnd, a_symbols, a_input, a_firstRules, a_spans, a_begun, a_symbolOf, a_altOf, a_parentOf, a_startOf, a_endOf, a_ambiguousOf, a_nextSymbol, a_stopSymbol, a_goalsOf, aL, yE, en, pr, fl, bg, re, yN, yA, yX, rfl, rfl, hR⟩ := I
  have h6 := hR.2.2.2.2.1
  have h11 := hR.2.2.2.2.2.2.2.2.2.1
  unfold wpX_nodeParent
  dsimp only
  rcases pk_ix v1 (n := c) (by omega) with z | z | ⟨t, ht, rfl⟩
  · exact br_t z (br_t rfl (br_t (Int32.le_of_lt z) ⟨rfl, ad_mk (k := k + 2) hR⟩))
  · by_cases z0 : v1 < 0
    · exact br_t z0 (br_t rfl (br_t (Int32.le_of_lt z0) ⟨rfl, ad_mk (k := k + 2) hR⟩))
    · refine br_f z0 (br_t z (br_t rfl (br_c (fun _ => ⟨rfl, ad_mk (k := k + 2) hR⟩) (fun _ => br_f (Int32.not_lt.mpr z) ⟨rfl, ad_mk (k := k + 2) hR⟩))))
  · have hin : vp_in (nI t) 64 := vp_in_nI (by omega) (by omega)
    refine br_f (nI_pos (by omega)) (br_f (nI_ge ht (by omega)) (br_f (by decide) ⟨hin, ?_⟩))
    by_cases e : t = 0
    · subst e
      exact br_t (by decide) ⟨(h11 ht).symm, ad_mk (k := k + 2) hR⟩
    · exact br_f (nI_nle (by omega) (by omega)) (br_t (nI_lt ht (by omega)) ⟨hin, rfl, ad_mk (k := k + 2) hR⟩)
theorem i_vc_nodeStart {k : Nat} {u : SX} {v : SY} (I : i_Rel k u v) (hk : k + 2 ≤ 1026) (v1 : Int32) : wpX_nodeStart (fun r => wpY_nodeStart (fun r' => r' = r ∧ i_Rel (k + 2) u v) v v1) u v1 := by
  obtain ⟨g, tk, n, lim, tl, c, f_compiled, f_resultError, hc, yD, yL, a_altRule, a_altNumber, a_altStart, a_altEnd, a_symbols, a_input, a_firstRules, a_spans, a_begun, a_symbolOf, a_altOf, a_parentOf, a_startOf, a_endOf, a_ambiguousOf, a_nextSymbol, a_stopSymbol, a_goalsOf, aL, yE, en, pr, fl, bg, re, yN, yA, yX, rfl, rfl, hR⟩ := I
  have h6 := hR.2.2.2.2.1
  unfold wpX_nodeStart
  dsimp only
  rcases pk_ix v1 (n := c) (by omega) with z | z | ⟨t, ht, rfl⟩
  · exact br_t z (br_t rfl (br_t z ⟨rfl, ad_mk (k := k + 2) hR⟩))
  · by_cases z0 : v1 < 0
    · exact br_t z0 (br_t rfl (br_t z0 ⟨rfl, ad_mk (k := k + 2) hR⟩))
    · exact br_f z0 (br_t z (br_t rfl (br_f z0 (br_f (Int32.not_lt.mpr z) ⟨rfl, ad_mk (k := k + 2) hR⟩))))
  · have hin : vp_in (nI t) 64 := vp_in_nI (by omega) (by omega)
    exact br_f (nI_pos (by omega)) (br_f (nI_ge ht (by omega)) (br_f (by decide) ⟨hin, br_f (nI_pos (by omega)) (br_t (nI_lt ht (by omega)) ⟨hin, rfl, ad_mk (k := k + 2) hR⟩)⟩))
theorem i_vc_nodeEnd {k : Nat} {u : SX} {v : SY} (I : i_Rel k u v) (hk : k + 2 ≤ 1026) (v1 : Int32) : wpX_nodeEnd (fun r => wpY_nodeEnd (fun r' => r' = r ∧ i_Rel (k + 2) u v) v v1) u v1 := by
  obtain ⟨g, tk, n, lim, tl, c, f_compiled, f_resultError, hc, yD, yL, a_altRule, a_altNumber, a_altStart, a_altEnd, a_symbols, a_input, a_firstRules, a_spans, a_begun, a_symbolOf, a_altOf, a_parentOf, a_startOf, a_endOf, a_ambiguousOf, a_nextSymbol, a_stopSymbol, a_goalsOf, aL, yE, en, pr, fl, bg, re, yN, yA, yX, rfl, rfl, hR⟩ := I
  have h6 := hR.2.2.2.2.1
  have h10 := hR.2.2.2.2.2.2.2.2.1
  unfold wpX_nodeEnd
  dsimp only
  rcases pk_ix v1 (n := c) (by omega) with z | z | ⟨t, ht, rfl⟩
  · exact br_t z (br_t rfl (br_t z ⟨rfl, ad_mk (k := k + 2) hR⟩))
  · by_cases z0 : v1 < 0
    · exact br_t z0 (br_t rfl (br_t z0 ⟨rfl, ad_mk (k := k + 2) hR⟩))
    · exact br_f z0 (br_t z (br_t rfl (br_f z0 (br_f (Int32.not_lt.mpr z) ⟨rfl, ad_mk (k := k + 2) hR⟩))))
  · have hin : vp_in (nI t) 64 := vp_in_nI (by omega) (by omega)
    refine br_f (nI_pos (by omega)) (br_f (nI_ge ht (by omega)) (br_f (by decide) ⟨hin, br_f (nI_pos (by omega)) (br_t (nI_lt ht (by omega)) ⟨hin, ?_, ad_mk (k := k + 2) hR⟩)⟩))
    rw [nI_clamp (by omega)]
    exact (h10 t ht).symm
theorem i_vc_nodeAmbiguous {k : Nat} {u : SX} {v : SY} (I : i_Rel k u v) (hk : k + 2 ≤ 1026) (v1 : Int32) : wpX_nodeAmbiguous (fun r => wpY_nodeAmbiguous (fun r' => r' = r ∧ i_Rel (k + 2) u v) v v1) u v1 := by
  obtain ⟨g, tk, n, lim, tl, c, f_compiled, f_resultError, hc, yD, yL, a_altRule, a_altNumber, a_altStart, a_altEnd, a_symbols, a_input, a_firstRules, a_spans, a_begun, a_symbolOf, a_altOf, a_parentOf, a_startOf, a_endOf, a_ambiguousOf, a_nextSymbol, a_stopSymbol, a_goalsOf, aL, yE, en, pr, fl, bg, re, yN, yA, yX, rfl, rfl, hR⟩ := I
  have h6 := hR.2.2.2.2.1
  have h12 := hR.2.2.2.2.2.2.2.2.2.2
  unfold wpX_nodeAmbiguous
  dsimp only
  rcases pk_ix v1 (n := c) (by omega) with z | z | ⟨t, ht, rfl⟩
  · exact br_t z (br_t rfl (br_t z ⟨rfl, ad_mk (k := k + 2) hR⟩))
  · by_cases z0 : v1 < 0
    · exact br_t z0 (br_t rfl (br_t z0 ⟨rfl, ad_mk (k := k + 2) hR⟩))
    · exact br_f z0 (br_t z (br_t rfl (br_f z0 (br_t z ⟨rfl, ad_mk (k := k + 2) hR⟩))))
  · have hin : vp_in (nI t) 64 := vp_in_nI (by omega) (by omega)
    refine br_f (nI_pos (by omega)) (br_f (nI_ge ht (by omega)) (br_f (by decide) ⟨hin, ?_⟩))
    rcases h12 (nI t).toNatClampNeg with y | ⟨y1, y2⟩
    · refine br_t y (br_f (nI_pos (by omega)) (br_f (nI_ge ht (by omega)) ⟨hin, br_c (fun _ => ⟨rfl, ad_mk (k := k + 2) hR⟩) (fun _ => ⟨hin, br_t y ⟨rfl, ad_mk (k := k + 2) hR⟩⟩)⟩))
    · have y0 : ¬ a_ambiguousOf (nI t).toNatClampNeg = 0 := by rw [y1]; decide
      exact br_f y0 (br_f (nI_pos (by omega)) (br_f (nI_ge ht (by omega)) ⟨hin, br_f (Int32.not_le.mpr y2) ⟨hin, br_f y0 ⟨rfl, ad_mk (k := k + 2) hR⟩⟩⟩))
end
section
theorem i_vc_beginAlt {k : Nat} {u : SX} {v : SY} (I : i_Rel k u v) (hk : k + 2 ≤ 1026) (v1 : Int32) : wpX_beginAlt (fun r u' => wpY_beginAlt (fun r' v' => r' = r ∧ i_Rel (k + 2) u' v') v v1) u v1 := by
  obtain ⟨g, tk, n, lim, tl, c, f_compiled, f_resultError, hc, yD, yL, a_altRule, a_altNumber, a_altStart, a_altEnd, a_symbols, a_input, a_firstRules, a_spans, a_begun, a_symbolOf, a_altOf, a_parentOf, a_startOf, a_endOf, a_ambiguousOf, a_nextSymbol, a_stopSymbol, a_goalsOf, aL, yE, en, pr, fl, bg, re, yN, yA, yX, rfl, rfl, hR⟩ := I
  have hX := hR.1
  have hC := hX.1.1
  rcases pk_ix v1 (n := 8) (by omega) with z | z | ⟨r, hr, rfl⟩
  · exact br_t z (br_t z ⟨rfl, ad_mk (k := k + 2) hR⟩)
  · obtain ⟨z1, z2, z3⟩ := ad_big (m := 7) (by omega) z
    exact br_f z1 (br_t z (br_f z1 (br_f z2 ⟨rfl, ad_mk (k := k + 2) hR⟩)))
  · refine br_f (nI_pos (by omega)) (br_f (nI_ge (b := 8) hr (by decide)) (pk_lt (ad_C g) 16 (fun z => ?_) (fun z => ?_)))
    · have hin : vp_in (nI (ad_C g)) 16 := vp_in_nI z (by omega)
      have ec : (nI (ad_C g)).toNatClampNeg = ad_C g := nI_clamp (by omega)
      refine ax_ca hX hr ?_
      refine ⟨hin, nm_r (e' := upd a_altNumber (ad_C g) (nI (1 + ad_cn (fun i => decide (ad_ru g i = r)) (ad_C g)))) (by rw [ec, ← nI_add]; rfl) ⟨hin, nm_r (e' := upd a_altRule (ad_C g) (nI r)) (by rw [ec]) ⟨hin, nm_r (e' := upd a_altStart (ad_C g) (nI (ad_M g))) (by rw [ec]) ⟨hin, nm_r (e' := upd a_altEnd (ad_C g) (nI (ad_M g))) (by rw [ec]) (nm_r (nI_1 (ad_C g)) ?_)⟩⟩⟩⟩
      refine br_f (nI_pos (by omega)) (br_t (nI_le (b := 7) (Nat.le_of_lt_succ hr) (by decide)) (br_t (nI_lt (b := 16) z (by decide)) ⟨hin, nm_r (e' := upd a_altRule (ad_C g) (nI r)) (by rw [ec]) ⟨hin, nm_r (e' := upd a_altStart (ad_C g) (nI (ad_M g))) (by rw [ec]) ⟨hin, nm_r (e' := upd aL (ad_C g) 0) (by rw [ec]) (nm_r (nI_1 (ad_C g)) ⟨rfl, ?_⟩)⟩⟩⟩))
      exact ad_mk (k := k + 2) (g := (ad_C g + 1, ad_M g, ad_set (ad_ru g) (ad_C g) r, ad_set (ad_st g) (ad_C g) (ad_M g), ad_set (ad_ln g) (ad_C g) 0, ad_sy g)) (ad_R_begin hR z hr rfl rfl rfl rfl rfl rfl)
    · exact br_f (nI_pos (by omega)) (br_t (nI_le (b := 7) (Nat.le_of_lt_succ hr) (by decide)) (br_f (nI_nlt (b := 16) z (by omega)) ⟨rfl, ad_mk (k := k + 2) hR⟩))

section
variable {f_tokenLimit f_nodeLimit f_altCount f_symbolCount f_compiled f_inputLength f_resultSize f_resultError : Int32} {a_altRule a_altNumber a_altStart a_altEnd a_symbols a_input a_firstRules a_spans a_begun a_symbolOf a_altOf a_parentOf a_startOf a_endOf a_ambiguousOf a_nextSymbol a_stopSymbol a_goalsOf : Nat → Int32}
variable {g : ad_G} {n : Nat}
theorem ax_ap {post : Int32 → SX → Prop} {s : Nat} (w : ad_wf g) (h0 : (ad_C g = 0 ∨ 48 ≤ ad_M g) → post 0 (f_tokenLimit, f_nodeLimit, (nI (ad_C g)), (nI (ad_M g)), f_compiled, (nI n), f_resultSize, f_resultError, a_altRule, a_altNumber, a_altStart, a_altEnd, a_symbols, a_input, a_firstRules, a_spans, a_begun, a_symbolOf, a_altOf, a_parentOf, a_startOf, a_endOf, a_ambiguousOf, a_nextSymbol, a_stopSymbol, a_goalsOf)) (h1 : 0 < ad_C g → ad_M g < 48 → post 1 (f_tokenLimit, f_nodeLimit, (nI (ad_C g)), (nI (ad_M g + 1)), 0, (nI n), f_resultSize, f_resultError, a_altRule, a_altNumber, a_altStart, (upd a_altEnd (ad_C g - 1) (nI (ad_M g + 1))), (upd a_symbols (ad_M g) (nI s)), a_input, a_firstRules, a_spans, a_begun, a_symbolOf, a_altOf, a_parentOf, a_startOf, a_endOf, a_ambiguousOf, a_nextSymbol, a_stopSymbol, a_goalsOf)) : wpX_appendSymbol post (f_tokenLimit, f_nodeLimit, (nI (ad_C g)), (nI (ad_M g)), f_compiled, (nI n), f_resultSize, f_resultError, a_altRule, a_altNumber, a_altStart, a_altEnd, a_symbols, a_input, a_firstRules, a_spans, a_begun, a_symbolOf, a_altOf, a_parentOf, a_startOf, a_endOf, a_ambiguousOf, a_nextSymbol, a_stopSymbol, a_goalsOf) (nI s) := by
  have hC := w.1
  have hM := w.2.1
  refine pk_eq (ad_C g) 0 (fun z => h0 (Or.inl z)) (fun z => pk_lt (ad_M g) 48 (fun y => ?_) (fun y => h0 (Or.inr y)))
  have e1 : nI (ad_C g) - 1 = nI (ad_C g - 1) := pk_sub (b := 1) (by omega)
  refine ⟨vp_in_nI y (by omega), nm_r (e' := upd a_symbols (ad_M g) (nI s)) (by rw [nI_clamp (by omega)]) (nm_r (nI_1 (ad_M g)) ⟨?_, nm_r (e' := upd a_altEnd (ad_C g - 1) (nI (ad_M g + 1))) ?_ (h1 (by omega) y)⟩)⟩
  · rw [e1]
    exact vp_in_nI (by omega) (by omega)
  · rw [e1, nI_clamp (by omega)]
end
theorem i_vc_addTerminal {k : Nat} {u : SX} {v : SY} (I : i_Rel k u v) (hk : k + 2 ≤ 1026) (v1 : Int32) : wpX_addTerminal (fun r u' => wpY_addTerminal (fun r' v' => r' = r ∧ i_Rel (k + 2) u' v') v v1) u v1 := by
  obtain ⟨g, tk, n, lim, tl, c, f_compiled, f_resultError, hc, yD, yL, a_altRule, a_altNumber, a_altStart, a_altEnd, a_symbols, a_input, a_firstRules, a_spans, a_begun, a_symbolOf, a_altOf, a_parentOf, a_startOf, a_endOf, a_ambiguousOf, a_nextSymbol, a_stopSymbol, a_goalsOf, aL, yE, en, pr, fl, bg, re, yN, yA, yX, rfl, rfl, hR⟩ := I
  have hX := hR.1
  have hC := hX.1.1
  have hM := hX.1.2.1
  have h7 := hR.2.2.2.2.2.1
  rcases pk_ix v1 (n := 16) (by omega) with z | z | ⟨s, hs, rfl⟩
  · exact br_t z (br_c (fun _ => ⟨rfl, ad_mk (k := k + 2) hR⟩) (fun _ => br_t z ⟨rfl, ad_mk (k := k + 2) hR⟩))
  · obtain ⟨z1, z2, z3⟩ := ad_big (m := 15) (by omega) z
    exact br_f z1 (br_t z (br_c (fun _ => ⟨rfl, ad_mk (k := k + 2) hR⟩) (fun _ => br_f z1 (br_t z3 ⟨rfl, ad_mk (k := k + 2) hR⟩))))
  · refine br_f (nI_pos (by omega)) (br_f (nI_ge (b := 16) hs (by decide)) (ax_ap hX.1 (fun z => ?_) (fun z y => ?_)))
    · refine br_t rfl ?_
      by_cases c0 : ad_C g = 0
      · rw [if_pos c0] at h7
        exact br_t h7 ⟨rfl, ad_mk (k := k + 2) hR⟩
      · have h71 : ¬ hc = 0 := by rw [h7, if_neg c0]; decide
        exact br_f h71 (br_f (nI_pos (by omega)) (br_f (nI_nlt (a := 15) (Nat.le_of_lt_succ hs) (by decide)) (br_f (nI_nlt (b := 48) (z.resolve_left c0) (by omega)) ⟨rfl, ad_mk (k := k + 2) hR⟩)))
    · have h71 : ¬ hc = 0 := by rw [h7, if_neg (by omega)]; decide
      have e1 : nI (ad_C g) - 1 = nI (ad_C g - 1) := pk_sub (b := 1) (by omega)
      have hin : vp_in (nI (ad_C g) - 1) 16 := by rw [e1]; exact vp_in_nI (by omega) (by omega)
      have eL := (hR.2.1.2.1 (ad_C g - 1) (by omega)).2.2
      refine br_f (by decide) (br_f h71 (br_f (nI_pos (by omega)) (br_f (nI_nlt (a := 15) (Nat.le_of_lt_succ hs) (by decide)) (br_t (nI_lt (b := 48) y (by decide)) ⟨vp_in_nI y (by omega), nm_r (e' := upd a_symbols (ad_M g) (nI s)) (by rw [nI_clamp (by omega)]) (nm_r (nI_1 (ad_M g)) ⟨hin, hin, nm_r (e' := upd aL (ad_C g - 1) (nI (ad_ln g (ad_C g - 1) + 1))) ?_ ⟨rfl, ?_⟩⟩)⟩))))
      · rw [e1, nI_clamp (by omega), eL, nI_1]
      · exact ad_mk (k := k + 2) (g := (ad_C g, ad_M g + 1, ad_ru g, ad_st g, ad_set (ad_ln g) (ad_C g - 1) (ad_ln g (ad_C g - 1) + 1), ad_set (ad_sy g) (ad_M g) s)) (ad_R_app hR z y (by omega) rfl rfl rfl rfl rfl rfl)
theorem i_vc_addRule {k : Nat} {u : SX} {v : SY} (I : i_Rel k u v) (hk : k + 2 ≤ 1026) (v1 : Int32) : wpX_addRule (fun r u' => wpY_addRule (fun r' v' => r' = r ∧ i_Rel (k + 2) u' v') v v1) u v1 := by
  obtain ⟨g, tk, n, lim, tl, c, f_compiled, f_resultError, hc, yD, yL, a_altRule, a_altNumber, a_altStart, a_altEnd, a_symbols, a_input, a_firstRules, a_spans, a_begun, a_symbolOf, a_altOf, a_parentOf, a_startOf, a_endOf, a_ambiguousOf, a_nextSymbol, a_stopSymbol, a_goalsOf, aL, yE, en, pr, fl, bg, re, yN, yA, yX, rfl, rfl, hR⟩ := I
  have hX := hR.1
  have hC := hX.1.1
  have hM := hX.1.2.1
  have h7 := hR.2.2.2.2.2.1
  rcases pk_ix v1 (n := 8) (by omega) with z | z | ⟨s, hs, rfl⟩
  · exact br_t z (br_c (fun _ => ⟨rfl, ad_mk (k := k + 2) hR⟩) (fun _ => br_t z ⟨rfl, ad_mk (k := k + 2) hR⟩))
  · obtain ⟨z1, z2, z3⟩ := ad_big (m := 7) (by omega) z
    exact br_f z1 (br_t z (br_c (fun _ => ⟨rfl, ad_mk (k := k + 2) hR⟩) (fun _ => br_f z1 (br_t z3 ⟨rfl, ad_mk (k := k + 2) hR⟩))))
  · have e16 : 16 + nI s = nI (16 + s) := nI_add 16 s
    refine br_f (nI_pos (by omega)) (br_f (nI_ge (b := 8) hs (by decide)) ?_)
    rw [e16]
    refine ax_ap hX.1 (fun z => ?_) (fun z y => ?_)
    · refine br_t rfl ?_
      by_cases c0 : ad_C g = 0
      · rw [if_pos c0] at h7
        exact br_t h7 ⟨rfl, ad_mk (k := k + 2) hR⟩
      · have h71 : ¬ hc = 0 := by rw [h7, if_neg c0]; decide
        exact br_f h71 (br_f (nI_pos (by omega)) (br_f (nI_nlt (a := 7) (Nat.le_of_lt_succ hs) (by decide)) (br_f (nI_nlt (b := 48) (z.resolve_left c0) (by omega)) ⟨rfl, ad_mk (k := k + 2) hR⟩)))
    · have h71 : ¬ hc = 0 := by rw [h7, if_neg (by omega)]; decide
      have e1 : nI (ad_C g) - 1 = nI (ad_C g - 1) := pk_sub (b := 1) (by omega)
      have hin : vp_in (nI (ad_C g) - 1) 16 := by rw [e1]; exact vp_in_nI (by omega) (by omega)
      have eL := (hR.2.1.2.1 (ad_C g - 1) (by omega)).2.2
      refine br_f (by decide) (br_f h71 (br_f (nI_pos (by omega)) (br_f (nI_nlt (a := 7) (Nat.le_of_lt_succ hs) (by decide)) (br_t (nI_lt (b := 48) y (by decide)) ⟨vp_in_nI y (by omega), nm_r (e' := upd a_symbols (ad_M g) (nI (16 + s))) (by rw [nI_clamp (by omega), e16]) (nm_r (nI_1 (ad_M g)) ⟨hin, hin, nm_r (e' := upd aL (ad_C g - 1) (nI (ad_ln g (ad_C g - 1) + 1))) ?_ ⟨rfl, ?_⟩⟩)⟩))))
      · rw [e1, nI_clamp (by omega), eL, nI_1]
      · exact ad_mk (k := k + 2) (g := (ad_C g, ad_M g + 1, ad_ru g, ad_st g, ad_set (ad_ln g) (ad_C g - 1) (ad_ln g (ad_C g - 1) + 1), ad_set (ad_sy g) (ad_M g) (16 + s))) (ad_R_app hR z y (by omega) rfl rfl rfl rfl rfl rfl)
theorem i_vc_compile {k : Nat} {u : SX} {v : SY} (I : i_Rel k u v) (hk : k + 2 ≤ 1026) : wpX_compile (fun r u' => wpY_compile (fun r' v' => r' = r ∧ i_Rel (k + 2) u' v') v) u := by
  obtain ⟨g, tk, n, lim, tl, c, f_compiled, f_resultError, hc, yD, yL, a_altRule, a_altNumber, a_altStart, a_altEnd, a_symbols, a_input, a_firstRules, a_spans, a_begun, a_symbolOf, a_altOf, a_parentOf, a_startOf, a_endOf, a_ambiguousOf, a_nextSymbol, a_stopSymbol, a_goalsOf, aL, yE, en, pr, fl, bg, re, yN, yA, yX, rfl, rfl, hR⟩ := I
  obtain ⟨h1, h2, h4, h5, h6, h7, h8, h9, h10, h11, h12⟩ := hR
  have hR0 : ∀ cp : Int32, (cp = 0 ∨ (cp = 1 ∧ ad_RK g)) → ad_R g tk n lim tl c cp hc a_altRule a_altNumber a_altStart a_altEnd aL a_symbols a_input a_altOf a_parentOf a_ambiguousOf a_endOf yE := fun cp hcp => ⟨h1, h2, h4, h5, h6, h7, h8, hcp, h10, h11, h12⟩
  have hR := hR0 f_compiled h9
  refine ax_compile h1 (fun x1 => ?_) (fun x1 x2 => ?_) (fun x1 x2 x3 => ?_) (fun f x1 x2 x3 x4 => ?_) (fun f x1 x2 x3 x4 x5 => ?_)
  · exact ay_compile h2 (fun _ => ⟨rfl, ad_mk (k := k + 2) hR⟩) (fun y => absurd y x1) (fun _ y => absurd y x1) (fun _ _ _ y => absurd y x1) (fun _ _ _ y => absurd y x1)
  · exact ay_compile h2 (fun y => absurd x1 y) (fun _ _ => ⟨rfl, ad_mk (k := k + 2) hR⟩) (fun _ _ y => absurd x2 y) (fun _ _ _ _ y => absurd x2 y) (fun _ _ _ _ y => absurd x2 y)
  · exact ay_compile h2 (fun y => absurd x1 y) (fun _ y => absurd y x2) (fun _ _ _ _ => ⟨rfl, ad_mk (k := k + 2) hR⟩) (fun _ _ _ _ _ y => absurd x3 y) (fun _ _ _ _ _ y => absurd x3 y)
  · exact ay_compile h2 (fun y => absurd x1 y) (fun _ y => absurd y x2) (fun _ _ _ y => absurd y x3) (fun _ _ _ _ _ _ _ => ⟨rfl, ad_mk (k := k + 2) hR⟩) (fun _ _ _ _ _ _ y => absurd x4 y)
  · exact ay_compile h2 (fun y => absurd x1 y) (fun _ y => absurd y x2) (fun _ _ _ y => absurd y x3) (fun _ _ _ _ _ _ y => absurd y x4) (fun _ _ _ _ _ _ _ => ⟨rfl, ad_mk (k := k + 2) (hR0 1 (Or.inr ⟨rfl, x5⟩))⟩)
end
section
theorem i_vc_parse {k : Nat} {u : SX} {v : SY} (I : i_Rel k u v) (hk : k + 2 ≤ 1026) : wpX_parse (fun r u' => wpY_parse (fun r' v' => r' = r ∧ i_Rel (k + 2) u' v') v) u := by
  obtain ⟨g, tk, n, lim, tl, c, f_compiled, f_resultError, hc, yD, yL, a_altRule, a_altNumber, a_altStart, a_altEnd, a_symbols, a_input, a_firstRules, a_spans, a_begun, a_symbolOf, a_altOf, a_parentOf, a_startOf, a_endOf, a_ambiguousOf, a_nextSymbol, a_stopSymbol, a_goalsOf, aL, yE, en, pr, fl, bg, re, yN, yA, yX, rfl, rfl, hR⟩ := I
  obtain ⟨h1, h2, h4, h5, h6, h7, h8, h9, h10, h11, h12⟩ := hR
  rcases h9 with h9 | ⟨h9, hRK⟩
  · subst h9
    exact br_t rfl (br_t rfl ⟨rfl, ad_mk (k := k + 2) ⟨h1, h2, h4, h5, h6, h7, h8, Or.inl rfl, h10, h11, h12⟩⟩)
  · subst h9
    have hn := h4.1
    refine br_f (by decide) (ax_fs h1 h4 hRK fun sp hsp => ?_)
    have hE : ∀ ye, ad_ex g tk n (ad_cY tk n ye) → (bt (ye 0) n = true ↔ bt (sp 208) n = true) := fun ye hye => (hye 16 0 n (by omega) (by omega)).trans (hsp 16 0 n (by omega) (by omega)).symm
    refine nm_e (ax_ct (by omega) (fun hb => br_f (by decide) ?_) (fun hb => br_t rfl ?_))
    · have hL : ad_LR g tk n 0 0 n := by
        rcases (hsp 16 0 n (by omega) (by omega)).mp hb with z | z
        · exact absurd z.1 (by omega)
        · exact z.2.2
      obtain ⟨B, B', c', sym', alt', par', sta', amb', en', yE', hout, ham, hpr, hX, hY⟩ := tr_all (f_tokenLimit := nI tl) (f_compiled := 1) (f_resultSize := nI c) (f_resultError := nI n) (a_altNumber := a_altNumber) (a_input := a_input) (a_firstRules := a_firstRules) (a_spans := sp) (a_begun := a_begun) (a_nextSymbol := a_nextSymbol) (a_stopSymbol := a_stopSymbol) (a_goalsOf := a_goalsOf) (y_f_tokenLimit := nI tl) (y_f_hasCurrent := hc) (y_f_compiled := 1) (y_f_count := nI c) (y_f_errPos := f_resultError) (y_f_depth := yD) (y_f_lastViable := yL) (y_a_pre := pr) (y_a_flag := fl) (y_a_beg := bg) (y_a_reach := re) (y_a_stNode := yN) (y_a_stAlt := yA) (y_a_stNext := yX) (lim := lim) h1 h2 h4 hsp h5 (by omega) (by omega) hL a_symbolOf a_altOf a_parentOf a_startOf a_ambiguousOf a_endOf yE h12
      refine hX _ fun nx' sto' go' => ?_
      rcases hout with ⟨rfl, rfl, hc1, hc2, hee⟩ | ⟨rfl, rfl⟩
      · refine br_f (by decide) (br_f (by decide) (ay_ce h2 h4 fun ye hye => ek_if (ad_has (by omega)) (fun hz => absurd ((hE ye hye).mpr hb) hz) (fun _ => ?_)))
        refine hY ye hye _ fun lv' D' yN' yA' yX' => ?_
        exact br_f (by decide) (br_f (by decide) ⟨rfl, ad_mk (k := k + 2) ⟨h1, h2, h4, h5, by omega, h7, h8, Or.inr ⟨rfl, hRK⟩, hee, fun _ => hpr, ham⟩⟩)
      · refine br_t rfl (br_f (by decide) (ay_ce h2 h4 fun ye hye => ek_if (ad_has (by omega)) (fun hz => absurd ((hE ye hye).mpr hb) hz) (fun _ => ?_)))
        refine hY ye hye _ fun lv' D' yN' yA' yX' => ?_
        exact br_f (by decide) (br_t rfl ⟨rfl, ad_mk (k := k + 2) (c := 0) ⟨h1, h2, h4, h5, by omega, h7, h8, Or.inr ⟨rfl, hRK⟩, fun i hi => absurd hi (Nat.not_lt_zero i), fun z => absurd z (Nat.lt_irrefl 0), ham⟩⟩)
    · refine ax_vp h1 hn hsp fun B R hRq => ?_
      refine br_f (by decide) (ay_ce h2 h4 fun ye hye => ek_if (ad_has (by omega)) (fun _ => ?_) (fun hz => absurd (fun y => hb ((hE ye hye).mp y)) hz))
      refine br_t rfl (ay_cp h2 h4 hye fun pr' hpr => ay_mx hn ?_)
      have e : ad_mx (fun i => bt (pr' 0) i) (n + 1) = ad_mx (fun i => bt R i) (n + 1) := ad_mx_eq (fun i hi => (hpr i).trans (hRq i hi).symm) (n + 1)
      rw [e]
      exact ⟨rfl, ad_mk (k := k + 2) (c := 0) ⟨h1, h2, h4, h5, by omega, h7, h8, Or.inr ⟨rfl, hRK⟩, fun i hi => absurd hi (Nat.not_lt_zero i), fun z => absurd z (Nat.lt_irrefl 0), h12⟩⟩
end
