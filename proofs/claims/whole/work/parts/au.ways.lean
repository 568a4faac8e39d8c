/-! ===== ways: how far a row's end is away ===== -/
section WY
variable (E : Nat → Nat → Prop) (b : Nat)
/-- one comes from x to b by n rows at most -/
def wR : Nat → Nat → Prop
  | 0, x => x = b
  | n + 1, x => wR n x ∨ ∃ y, y < 16 ∧ E x y ∧ wR n y
/-- by one row and n more one comes from x to b, and by no fewer -/
def wM (x n : Nat) : Prop := (∃ y, y < 16 ∧ E x y ∧ wR E b n y) ∧ ∀ y, y < 16 → E x y → ∀ m, m < n → ¬ wR E b m y
/-- the least next one -/
def wY (x n y : Nat) : Prop := y < 16 ∧ E x y ∧ wR E b n y ∧ ∀ t, t < y → E x t → ¬ wR E b n t
noncomputable def wNx (x n : Nat) : Nat := @dite _ (∃ y, wY E b x n y) (Classical.propDecidable _) (fun h => Classical.choose h) (fun _ => 0)
noncomputable def wV : Nat → Nat → Nat → Nat
  | 0, x, n => 16 * x + wNx E b x n
  | k + 1, x, n => wV k (wNx E b x n) (n - 1)
/-- the k-th row of the way from a to b, or -1 -/
noncomputable def wW (a : Nat) (kk : Int32) : Int32 := @dite _ (∃ p : Nat × Nat, p.1 ≤ 15 ∧ wM E b a p.1 ∧ kk = nI p.2 ∧ p.2 ≤ p.1) (Classical.propDecidable _) (fun h => nI (wV E b (Classical.choose h).2 a (Classical.choose h).1)) (fun _ => -1)
variable {E b}
theorem wR.le {x n : Nat} : ∀ m, wR E b n x → wR E b (n + m) x
  | 0, h => h
  | m + 1, h => Or.inl (wR.le m h)
theorem wR.le' {x n m : Nat} (h : wR E b n x) (hm : n ≤ m) : wR E b m x := by
  have := wR.le (m - n) h
  rwa [show n + (m - n) = m by omega] at this
theorem wM_u {x n n' : Nat} (h : wM E b x n) (h' : wM E b x n') : n = n' := by
  obtain ⟨⟨y, y1, y2, y3⟩, h1⟩ := h
  obtain ⟨⟨z, z1, z2, z3⟩, h2⟩ := h'
  rcases Nat.lt_trichotomy n n' with c | c | c
  · exact absurd y3 (h2 y y1 y2 n c)
  · exact c
  · exact absurd z3 (h1 z z1 z2 n' c)
theorem wM_ex {x : Nat} : ∀ m, (∃ y, y < 16 ∧ E x y ∧ wR E b m y) → ∃ n, n ≤ m ∧ wM E b x n := by
  intro m
  induction m using Nat.strongRecOn with
  | ind m ih =>
    intro h
    by_cases c : ∃ m', m' < m ∧ ∃ y, y < 16 ∧ E x y ∧ wR E b m' y
    · obtain ⟨m', hm, h'⟩ := c
      obtain ⟨n, hn, h2⟩ := ih m' hm h'
      exact ⟨n, by omega, h2⟩
    · exact ⟨m, Nat.le_refl _, h, fun y y1 y2 m' hm z => c ⟨m', hm, y, y1, y2, z⟩⟩
theorem wM_dn {x n y : Nat} (h : wM E b x (n + 1)) (hy : y < 16) (e : E x y) (r : wR E b (n + 1) y) : wM E b y n := by
  refine ⟨?_, fun z z1 z2 m hm r2 => h.2 y hy e (m + 1) (by omega) (Or.inr ⟨z, z1, z2, r2⟩)⟩
  rcases r with r | r
  · exact absurd r (h.2 y hy e n (by omega))
  · exact r
theorem wM_r {y n : Nat} (h : wM E b y n) : wR E b (n + 1) y := Or.inr h.1
theorem wM_0 {x : Nat} (hb : b < 16) : wM E b x 0 ↔ E x b := by
  constructor
  · rintro ⟨⟨y, -, y2, y3⟩, -⟩
    rw [← show y = b from y3]; exact y2
  · intro h
    exact ⟨⟨b, hb, h, rfl⟩, fun _ _ _ m hm => absurd hm (Nat.not_lt_zero m)⟩
theorem wY_ex {x n : Nat} (h : wM E b x n) : ∃ y, wY E b x n y := by
  obtain ⟨⟨y, h1, h2, h3⟩, -⟩ := h
  induction y using Nat.strongRecOn with
  | ind y ih =>
    by_cases c : ∃ t, t < y ∧ E x t ∧ wR E b n t
    · obtain ⟨t, t1, t2, t3⟩ := c
      exact ih t t1 (by omega) t2 t3
    · exact ⟨y, h1, h2, h3, fun t t1 t2 t3 => c ⟨t, t1, t2, t3⟩⟩
theorem wY_u {x n y y' : Nat} (h : wY E b x n y) (h' : wY E b x n y') : y = y' := by
  rcases Nat.lt_trichotomy y y' with c | c | c
  · exact absurd h.2.2.1 (h'.2.2.2 y c h.2.1)
  · exact c
  · exact absurd h'.2.2.1 (h.2.2.2 y' c h'.2.1)
theorem wNx_Y {x n : Nat} (h : wM E b x n) : wY E b x n (wNx E b x n) := by
  have hx := wY_ex h
  unfold wNx
  rw [dif_pos hx]
  exact Classical.choose_spec hx
theorem wNx_e {x n y : Nat} (h : wM E b x n) (hy : wY E b x n y) : wNx E b x n = y := wY_u (wNx_Y h) hy
theorem wW_T {a n k : Nat} (hn : n ≤ 15) (h : wM E b a n) (hk : k ≤ n) : wW E b a (nI k) = nI (wV E b k a n) := by
  have hx : ∃ p : Nat × Nat, p.1 ≤ 15 ∧ wM E b a p.1 ∧ nI k = nI p.2 ∧ p.2 ≤ p.1 := ⟨(n, k), hn, h, rfl, hk⟩
  unfold wW
  rw [dif_pos hx]
  obtain ⟨h1, h2, h3, h4⟩ := Classical.choose_spec hx
  rw [← wM_u h h2, ← (nI_eq (by omega) (by omega)).mp h3]
theorem wW_F {a : Nat} {kk : Int32} (h : ∀ n k, n ≤ 15 → wM E b a n → kk = nI k → ¬ k ≤ n) : wW E b a kk = -1 := by
  unfold wW
  rw [dif_neg]
  rintro ⟨⟨n, k⟩, h1, h2, h3, h4⟩
  exact h n k h1 h2 h3 h4
/-- sixteen of them: no way is longer -/
theorem kNum_mono {p q : Nat → Bool} : ∀ n, (∀ x, x < n → p x = true → q x = true) → kNum p n ≤ kNum q n
  | 0, _ => Nat.le_refl _
  | n + 1, h => by
    have ih := kNum_mono n (fun x hx => h x (by omega))
    show kNum p n + _ ≤ kNum q n + _
    by_cases c : p n = true
    · rw [if_pos c, if_pos (h n (by omega) c)]; omega
    · rw [if_neg c]; omega
theorem kNum_mono1 {p q : Nat → Bool} : ∀ n, (∀ x, x < n → p x = true → q x = true) → (∃ x, x < n ∧ q x = true ∧ ¬ p x = true) → kNum p n + 1 ≤ kNum q n
  | 0, _, h => by obtain ⟨x, hx, -⟩ := h; exact absurd hx (Nat.not_lt_zero x)
  | n + 1, h, hx => by
    show kNum p n + _ + 1 ≤ kNum q n + _
    by_cases c : q n = true ∧ ¬ p n = true
    · have := kNum_mono n (p := p) (q := q) (fun x hx => h x (by omega))
      rw [if_pos c.1, if_neg c.2]; omega
    · obtain ⟨x, x1, x2, x3⟩ := hx
      have hne : x ≠ n := fun e => c (by rw [← e]; exact ⟨x2, x3⟩)
      have := kNum_mono1 n (p := p) (q := q) (fun x hx => h x (by omega)) ⟨x, by omega, x2, x3⟩
      by_cases c2 : p n = true
      · rw [if_pos c2, if_pos (h n (by omega) c2)]; omega
      · rw [if_neg c2]; omega
theorem kNum_le2 {p : Nat → Bool} : ∀ n, kNum p n ≤ n
  | 0 => Nat.le_refl _
  | n + 1 => by
    have := kNum_le2 (p := p) n
    show kNum p n + _ ≤ n + 1
    split <;> omega
theorem kNum_all {p : Nat → Bool} : ∀ n, n ≤ kNum p n → ∀ x, x < n → p x = true
  | 0, _, x, hx => absurd hx (Nat.not_lt_zero x)
  | n + 1, h, x, hx => by
    have h' : n + 1 ≤ kNum p n + (if p n = true then 1 else 0) := h
    have := kNum_le2 (p := p) n
    by_cases c : p n = true
    · rw [if_pos c] at h'
      rcases Nat.lt_or_ge x n with z | z
      · exact kNum_all n (by omega) x z
      · rw [show x = n by omega]; exact c
    · rw [if_neg c] at h'; omega
noncomputable def wB (E : Nat → Nat → Prop) (b n x : Nat) : Bool := @decide (wR E b n x) (Classical.propDecidable _)
theorem wB_T {n x : Nat} : wB E b n x = true ↔ wR E b n x := ⟨fun h => @of_decide_eq_true _ (Classical.propDecidable _) h, fun h => @decide_eq_true _ (Classical.propDecidable _) h⟩
theorem wR_num (hb : b < 16) : ∀ n, (∃ x, x < 16 ∧ wR E b (n + 1) x ∧ ¬ wR E b n x) → n + 1 ≤ kNum (wB E b n) 16
  | 0, _ => by
    have := kNum_mono1 (p := fun _ => false) (q := wB E b 0) 16 (fun _ _ h => by cases h) ⟨b, hb, wB_T.mpr rfl, fun h => by cases h⟩
    omega
  | n + 1, h => by
    obtain ⟨x, x1, x2, x3⟩ := h
    rcases x2 with x2 | ⟨y, y1, y2, y3⟩
    · exact absurd x2 x3
    · have hy : ¬ wR E b n y := fun z => x3 (Or.inr ⟨y, y1, y2, z⟩)
      have ih := wR_num hb n ⟨y, y1, y3, hy⟩
      have := kNum_mono1 (p := wB E b n) (q := wB E b (n + 1)) 16 (fun z _ h => wB_T.mpr (Or.inl (wB_T.mp h))) ⟨y, y1, wB_T.mpr y3, fun z => hy (wB_T.mp z)⟩
      omega
theorem wR_15 (hb : b < 16) {x : Nat} (hx : x < 16) (h : wR E b 16 x) : wR E b 15 x := by
  refine Classical.byContradiction fun c => ?_
  have := wR_num hb 15 ⟨x, hx, h, c⟩
  exact c (wB_T.mp (kNum_all 16 this x hx))
theorem wM_15 (hb : b < 16) {x n : Nat} (h : wM E b x n) (hn : n ≤ 16) : n ≤ 15 := by
  refine Classical.byContradiction fun c => ?_
  have e : n = 16 := by omega
  rw [e] at h
  obtain ⟨⟨y, y1, y2, y3⟩, h2⟩ := h
  exact h2 y y1 y2 15 (by omega) (wR_15 hb y1 y3)
end WY
