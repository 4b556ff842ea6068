/-! ===== least sets of rules by rounds ===== -/
def ad_mf (g : ad_G) (T : Bool) (S : Nat → Bool) (a : Nat) : Prop := ad_ok g T (fun r => S r = true) a → S (ad_ru g a) = true
def ad_md (g : ad_G) (T : Bool) (S : Nat → Bool) : Prop := ∀ a, a < ad_C g → ad_mf g T S a
def ad_mS (g : ad_G) (T : Bool) (S : Nat → Bool) : Prop := ∀ r, S r = true → ad_LS g T r
def ad_mI (g : ad_G) (T : Bool) (j a : Nat) (S : Nat → Bool) : Prop := ad_mS g T S ∧ ad_rin (ad_mf g T S) (ad_md g T S) j (ad_cn S 8) a
theorem ad_m_skip {g : ad_G} {T : Bool} {j a : Nat} {S : Nat → Bool} (h : ad_mI g T j a S) (hf : ad_mf g T S a) : ad_mI g T j (a + 1) S := ⟨h.1, ad_rin_s h.2 hf⟩
theorem ad_m_step {g : ad_G} (w : ad_wf g) {T : Bool} {j a : Nat} {S S' : Nat → Bool} (ha : a < ad_C g) (h : ad_mI g T j a S) (ho : ad_ok g T (fun r => S r = true) a) (hS' : ∀ r, S' r = true ↔ S r = true ∨ r = ad_ru g a) : ad_mI g T j (a + 1) S' := by
  by_cases z : S (ad_ru g a) = true
  · have e : S' = S := funext fun r => Bool.eq_iff_iff.mpr ((hS' r).trans ⟨fun y => y.elim id (fun x => by rw [x]; exact z), Or.inl⟩)
    rw [e]
    exact ad_m_skip h (fun _ => z)
  · refine ⟨?_, ad_rin_g h.2 (fun hd => z (hd a ha ho)) ?_⟩
    · intro r hr
      rcases (hS' r).mp hr with y | y
      · exact h.1 r y
      · rw [y]
        exact ad_LS_c g T a ha (ad_ok_mono (fun r hr => h.1 r hr) ho)
    · exact ad_cn_lt 8 (fun i _ hp => (hS' i).mpr (Or.inl hp)) (ad_ru g a) (w.2.2.1 a ha).1 ((hS' _).mpr (Or.inr rfl)) z
theorem ad_m_round {g : ad_G} {T : Bool} {j : Nat} {S : Nat → Bool} (h : ad_mI g T j (ad_C g) S) : ad_mI g T (j + 1) 0 S := ⟨h.1, ad_rin_0 (ad_rin_e (fun z => z) h.2)⟩
theorem ad_m_0 {g : ad_G} {T : Bool} {S : Nat → Bool} (h : ∀ r, ¬ S r = true) : ad_mI g T 0 0 S := ⟨fun r hr => absurd hr (h r), ad_rin_0 (Or.inr (by omega))⟩
theorem ad_m_end {g : ad_G} (w : ad_wf g) {T : Bool} {j : Nat} (hj : 8 ≤ j) {S : Nat → Bool} (h : ad_mI g T j 0 S) (r : Nat) : S r = true ↔ ad_LS g T r := by
  refine ⟨h.1 r, fun hl => hl (fun r => S r = true) ?_⟩
  intro a ha ho
  have hd : ad_md g T S ∨ 8 ≤ ad_cn S 8 := by
    rcases h.2 with ⟨_, z | z⟩ | z
    · exact Or.inl z
    · exact Or.inr (by omega)
    · exact Or.inr (by omega)
  rcases hd with z | z
  · exact z a ha ho
  · exact ad_cn_full 8 z _ (w.2.2.1 a ha).1
/-! ===== the defined rules ===== -/
def ad_df (g : ad_G) (r : Nat) : Prop := ∃ a, a < ad_C g ∧ ad_ru g a = r
theorem ad_LS_df {g : ad_G} {T : Bool} {r : Nat} (h : ad_LS g T r) : ad_df g r := h (ad_df g) fun a ha _ => ⟨a, ha, rfl⟩
theorem ad_df_8 {g : ad_G} (w : ad_wf g) {r : Nat} (h : ad_df g r) : r < 8 := by
  obtain ⟨a, ha, e⟩ := h
  have := (w.2.2.1 a ha).1
  omega
/-! ===== Warshall ===== -/
def ad_ws (f : Nat → Int32) (m i : Nat) : Nat → Int32 := fun r => if r < i ∧ bt (f r) m = true then f r ||| f m else f r
theorem ad_or_self (x : Int32) : (x ||| x) = x := ad_bext fun i => by
  rw [ad_orb]
  exact ⟨fun z => z.elim id id, Or.inl⟩
theorem ad_ws_m (f : Nat → Int32) (m i : Nat) : ad_ws f m i m = f m := by
  show (if m < i ∧ bt (f m) m = true then f m ||| f m else f m) = f m
  rw [ad_or_self]
  split <;> rfl
theorem ad_ws_0 (f : Nat → Int32) (m : Nat) : ad_ws f m 0 = f := funext fun r => if_neg (by omega)
theorem ad_ws_i (f : Nat → Int32) (m i : Nat) : ad_ws f m i i = f i := if_neg (by omega)
theorem ad_ws_t {f : Nat → Int32} {m i : Nat} (h : bt (f i) m = true) : upd (ad_ws f m i) i (f i ||| f m) = ad_ws f m (i + 1) := by
  funext r
  by_cases e : r = i
  · subst e
    rw [pk_us]
    exact (if_pos ⟨by omega, h⟩).symm
  · rw [pk_un e]
    show (if r < i ∧ bt (f r) m = true then f r ||| f m else f r) = (if r < i + 1 ∧ bt (f r) m = true then f r ||| f m else f r)
    have : (r < i ∧ bt (f r) m = true) ↔ (r < i + 1 ∧ bt (f r) m = true) := ⟨fun z => ⟨by omega, z.2⟩, fun z => ⟨by omega, z.2⟩⟩
    simp only [this]
theorem ad_ws_f {f : Nat → Int32} {m i : Nat} (h : ¬ bt (f i) m = true) : ad_ws f m i = ad_ws f m (i + 1) := by
  funext r
  show (if r < i ∧ bt (f r) m = true then f r ||| f m else f r) = (if r < i + 1 ∧ bt (f r) m = true then f r ||| f m else f r)
  by_cases e : r = i
  · subst e
    rw [if_neg (fun z => h z.2), if_neg (fun z => h z.2)]
  · have : (r < i ∧ bt (f r) m = true) ↔ (r < i + 1 ∧ bt (f r) m = true) := ⟨fun z => ⟨by omega, z.2⟩, fun z => ⟨by omega, z.2⟩⟩
    simp only [this]
theorem ad_ws_b {f : Nat → Int32} {m r q : Nat} (hr : r < 8) : bt (ad_ws f m 8 r) q = true ↔ bt (f r) q = true ∨ (bt (f r) m = true ∧ bt (f m) q = true) := by
  show bt (if r < 8 ∧ bt (f r) m = true then f r ||| f m else f r) q = true ↔ _
  by_cases h : bt (f r) m = true
  · rw [if_pos ⟨hr, h⟩, ad_orb]
    exact ⟨fun z => z.imp id (fun y => ⟨h, y⟩), fun z => z.imp id (fun y => y.2)⟩
  · rw [if_neg (fun z => h z.2)]
    exact ⟨Or.inl, fun z => z.elim id (fun y => absurd y.1 h)⟩
def ad_wI (g : ad_G) (m : Nat) (f : Nat → Int32) : Prop :=
  (∀ r q, ad_bw g r q → bt (f r) q = true) ∧ (∀ r q, r < 8 → bt (f r) q = true → ad_TC (ad_bw g) r q) ∧
    ∀ k r q, k < m → r < 8 → bt (f r) k = true → bt (f k) q = true → bt (f r) q = true
theorem ad_wI_s {g : ad_G} (w : ad_wf g) {m : Nat} (hm : m < 8) {f : Nat → Int32} (h : ad_wI g m f) : ad_wI g (m + 1) (ad_ws f m 8) := by
  obtain ⟨h1, h2, h3⟩ := h
  refine ⟨?_, ?_, ?_⟩
  · intro r q hb
    exact (ad_ws_b (ad_bw_lt w hb).1).mpr (Or.inl (h1 r q hb))
  · intro r q hr hb
    rcases (ad_ws_b hr).mp hb with z | z
    · exact h2 r q hr z
    · exact ad_TC_t (h2 r m hr z.1) (h2 m q hm z.2)
  · intro k r q hk hr ha hb
    have ha := (ad_ws_b hr).mp ha
    have hb := (ad_ws_b (f := f) (m := m) (q := q) (show k < 8 by omega)).mp hb
    refine (ad_ws_b hr).mpr ?_
    by_cases e : k = m
    · subst e
      have a1 : bt (f r) k = true := ha.elim id (fun z => z.1)
      have b1 : bt (f k) q = true := hb.elim id (fun z => z.2)
      exact Or.inr ⟨a1, b1⟩
    · have hk : k < m := by omega
      rcases ha with a1 | ⟨a1, a2⟩
      · rcases hb with b1 | ⟨b1, b2⟩
        · exact Or.inl (h3 k r q hk hr a1 b1)
        · exact Or.inr ⟨h3 k r m hk hr a1 b1, b2⟩
      · rcases hb with b1 | ⟨b1, b2⟩
        · exact Or.inr ⟨a1, h3 k m q hk hm a2 b1⟩
        · exact Or.inr ⟨a1, b2⟩
theorem ad_wI_e {g : ad_G} (w : ad_wf g) {f : Nat → Int32} (h : ad_wI g 8 f) {r q : Nat} (hr : r < 8) : bt (f r) q = true ↔ ad_TC (ad_bw g) r q := by
  refine ⟨h.2.1 r q hr, fun ht => ?_⟩
  refine ht (fun x y => x < 8 → bt (f x) y = true) (fun x y hb _ => h.1 x y hb) ?_ hr
  intro x y z hx hb h8
  exact h.2.2 y x z (ad_bw_lt w hb).1 h8 (hx h8) (h.1 y z hb)
def ad_lrec (g : ad_G) : Prop := ∃ r, r < 8 ∧ ad_TC (ad_bw g) r r
theorem ad_wI_rk {g : ad_G} (w : ad_wf g) {f : Nat → Int32} (h : ad_wI g 8 f) (hn : ¬ ad_lrec g) : ad_RK g :=
  ad_rank w (fun r q => bt (f r) q) h.1 (fun r k q hr hk _ h1 h2 => h.2.2 k r q hk hr h1 h2) (fun r hr hb => hn ⟨r, hr, h.2.1 r r hr hb⟩)
/-! ===== the reference's closure by rounds, row by row ===== -/
def ad_row (re : Nat → Int32) (r : Nat) : Nat → Bool := fun q => decide (q < 8 ∧ ¬ re (r * 8 + q) = 0)
def ad_qf (g : ad_G) (S : Nat → Bool) (q : Nat) : Prop := (∃ k, k < 8 ∧ S k = true ∧ ad_bw g k q) → S q = true
def ad_qd (g : ad_G) (S : Nat → Bool) : Prop := ∀ q, q < 8 → ad_qf g S q
def ad_pz (i r : Nat) : Nat := if i ≤ r * 8 then 0 else if r * 8 + 8 ≤ i then 8 else i - r * 8
def ad_qI (g : ad_G) (j i : Nat) (re : Nat → Int32) : Prop :=
  ∀ r, r < 8 → (∀ q, ad_bw g r q → ad_row re r q = true) ∧ (∀ q, ad_row re r q = true → ad_TC (ad_bw g) r q) ∧
    ad_rin (ad_qf g (ad_row re r)) (ad_qd g (ad_row re r)) j (ad_cn (ad_row re r) 8) (ad_pz i r)
theorem ad_pz_n {i r q r' : Nat} (hi : i = r * 8 + q) (hq : q < 8) (h : r' ≠ r) : ad_pz (i + 1) r' = ad_pz i r' := by
  unfold ad_pz
  split <;> split <;> (try split) <;> (try split) <;> omega
theorem ad_pz_s {i r q : Nat} (hi : i = r * 8 + q) (hq : q < 8) : ad_pz i r = q ∧ ad_pz (i + 1) r = q + 1 := by
  unfold ad_pz
  constructor
  · split <;> (try split) <;> omega
  · split <;> (try split) <;> omega
theorem ad_q_skip {g : ad_G} {j i r q : Nat} (hi : i = r * 8 + q) (hq : q < 8) {re : Nat → Int32} (h : ad_qI g j i re) (hf : r < 8 → ad_qf g (ad_row re r) q) : ad_qI g j (i + 1) re := by
  intro r' hr'
  obtain ⟨h1, h2, h3⟩ := h r' hr'
  refine ⟨h1, h2, ?_⟩
  by_cases e : r' = r
  · subst e
    rw [(ad_pz_s hi hq).1] at h3
    rw [(ad_pz_s hi hq).2]
    exact ad_rin_s h3 (hf hr')
  · rw [ad_pz_n hi hq e]
    exact h3
theorem ad_q_step {g : ad_G} {j i r q : Nat} (hi : i = r * 8 + q) (hr : r < 8) (hq : q < 8) {re : Nat → Int32} (h : ad_qI g j i re) (h0 : re i = 0) {k : Nat} (hk : k < 8) (hb : ad_row re r k = true) (hw : ad_bw g k q) : ad_qI g j (i + 1) (upd re i 1) := by
  intro r' hr'
  obtain ⟨h1, h2, h3⟩ := h r' hr'
  by_cases e : r' = r
  · subst e
    have hrow : ∀ x, ad_row (upd re i 1) r' x = true ↔ ad_row re r' x = true ∨ x = q := by
      intro x
      unfold ad_row
      rw [decide_eq_true_iff, decide_eq_true_iff]
      by_cases ex : x = q
      · subst ex
        rw [← hi, pk_us]
        exact ⟨fun _ => Or.inr rfl, fun _ => ⟨hq, by decide⟩⟩
      · rw [pk_un (show r' * 8 + x ≠ i by omega)]
        exact ⟨Or.inl, fun z => z.elim id (fun y => absurd y ex)⟩
    have hnq : ¬ ad_row re r' q = true := by
      unfold ad_row
      rw [decide_eq_true_iff, ← hi]
      exact fun z => z.2 h0
    refine ⟨fun x hx => (hrow x).mpr (Or.inl (h1 x hx)), fun x hx => ?_, ?_⟩
    · rcases (hrow x).mp hx with z | z
      · exact h2 x z
      · rw [z]
        exact ad_TC_s (h2 k hb) hw
    · rw [(ad_pz_s hi hq).1] at h3
      rw [(ad_pz_s hi hq).2]
      refine ad_rin_g h3 (fun hd => hnq (hd q hq ⟨k, hk, hb, hw⟩)) ?_
      exact ad_cn_lt 8 (fun x _ hx => (hrow x).mpr (Or.inl hx)) q hq ((hrow q).mpr (Or.inr rfl)) hnq
  · have hrow : ad_row (upd re i 1) r' = ad_row re r' := by
      funext x
      unfold ad_row
      by_cases hx : x < 8
      · rw [pk_un (show r' * 8 + x ≠ i by omega)]
      · rw [decide_eq_false (fun z => hx z.1), decide_eq_false (fun z => hx z.1)]
    rw [hrow, ad_pz_n hi hq e]
    exact ⟨h1, h2, h3⟩
theorem ad_q_round {g : ad_G} {j : Nat} {re : Nat → Int32} (h : ad_qI g j 64 re) : ad_qI g (j + 1) 0 re := by
  intro r hr
  obtain ⟨h1, h2, h3⟩ := h r hr
  refine ⟨h1, h2, ?_⟩
  have e1 : ad_pz 64 r = 8 := by unfold ad_pz; rw [if_neg (by omega), if_pos (by omega)]
  have e2 : ad_pz 0 r = 0 := by unfold ad_pz; rw [if_pos (by omega)]
  rw [e1] at h3
  rw [e2]
  exact ad_rin_0 (ad_rin_e (fun z => z) h3)
theorem ad_q_0 {g : ad_G} {re : Nat → Int32} (h : ∀ r q, r < 8 → (ad_row re r q = true ↔ ad_bw g r q)) : ad_qI g 0 0 re := by
  intro r hr
  refine ⟨fun q hq => (h r q hr).mpr hq, fun q hq => ad_TC_1 ((h r q hr).mp hq), ?_⟩
  have e2 : ad_pz 0 r = 0 := by unfold ad_pz; rw [if_pos (by omega)]
  rw [e2]
  exact ad_rin_0 (Or.inr (by omega))
theorem ad_q_end {g : ad_G} (w : ad_wf g) {re : Nat → Int32} (h : ad_qI g 8 0 re) {r q : Nat} (hr : r < 8) : ad_row re r q = true ↔ ad_TC (ad_bw g) r q := by
  obtain ⟨h1, h2, h3⟩ := h r hr
  refine ⟨h2 q, fun ht => ?_⟩
  have hd : ad_qd g (ad_row re r) := by
    have hd : ad_qd g (ad_row re r) ∨ 8 ≤ ad_cn (ad_row re r) 8 := by
      rcases h3 with ⟨_, z | z⟩ | z
      · exact Or.inl z
      · exact Or.inr (by omega)
      · exact Or.inr (by omega)
    rcases hd with z | z
    · exact z
    · exact fun q hq _ => ad_cn_full 8 z q hq
  have key : r = r → ad_row re r q = true := by
    refine ht (fun x y => x = r → ad_row re r y = true) (fun x y hb e => by rw [e] at hb; exact h1 y hb) ?_
    intro x y z hx hb e
    have hl := ad_bw_lt w hb
    exact hd z hl.2 ⟨y, hl.1, hx e, hb⟩
  exact key rfl
