/-! ===== what both sides hold: the changes told ===== -/
abbrev kAl : Type := Nat × Nat × Int32 × (Nat → Int32) × (Nat → Int32) × (Nat → Int32) × (Nat → Int32) × (Nat → Int32) × (Nat → Nat)
abbrev lNn (L : kAl) : Nat := L.1
abbrev lC (L : kAl) : Nat := L.2.1
abbrev lR (L : kAl) : Int32 := L.2.2.1
abbrev lTb (L : kAl) : Nat → Int32 := L.2.2.2.1
abbrev lCe (L : kAl) : Nat → Int32 := L.2.2.2.2.1
abbrev lMo (L : kAl) : Nat → Int32 := L.2.2.2.2.2.1
abbrev lEd (L : kAl) : Nat → Int32 := L.2.2.2.2.2.2.1
abbrev lLa (L : kAl) : Nat → Int32 := L.2.2.2.2.2.2.2.1
abbrev lEn (L : kAl) : Nat → Nat := L.2.2.2.2.2.2.2.2
/-- how many changes up to an edition; up to the last closed one -/
def lE (L : kAl) (e : Nat) : Nat := if e < lC L then lEn L e else lNn L
def lZ (L : kAl) : Nat := if lC L = 0 then 0 else lEn L (lC L - 1)
/-- a table's counts after m changes -/
def lT (L : kAl) (m t r : Nat) : Int32 := kp_sum (fun k => if lTb L k = nI t ∧ lCe L k = nI r then lMo L k else 0) m
def kWl (L : kAl) : Prop := lNn L ≤ 400 ∧ lC L ≤ 100 ∧ (∀ k, k < lNn L → (∃ t, t < 4 ∧ lTb L k = nI t) ∧ (∃ r, r < 256 ∧ lCe L k = nI r) ∧ (∃ e, e ≤ lC L ∧ lEd L k = nI e ∧ ∀ e', e' < lC L → (e ≤ e' ↔ k < lEn L e')) ∧ (lLa L k = 0 ∨ lLa L k = 1)) ∧ ∀ e, e < lC L → lEn L e ≤ lNn L
theorem lZ_le {L : kAl} (w : kWl L) : lZ L ≤ lNn L := by
  unfold lZ
  split
  · exact Nat.zero_le _
  · exact w.2.2.2 _ (by omega)
theorem lE_le {L : kAl} (w : kWl L) (e : Nat) : lE L e ≤ lNn L := by
  unfold lE
  split
  · exact w.2.2.2 _ (by omega)
  · exact Nat.le_refl _
theorem lE_Z {L : kAl} (w : kWl L) {e : Nat} (he : e < lC L) : lE L e ≤ lZ L := by
  unfold lE lZ
  rw [if_pos he, if_neg (by omega)]
  rcases Nat.lt_or_ge (lEn L (lC L - 1)) (lEn L e) with z | z
  · have h1 := w.2.2.2 e he
    obtain ⟨-, -, ⟨e0, -, -, h3⟩, -⟩ := w.2.2.1 (lEn L (lC L - 1)) (by omega)
    have h4 := (h3 e he).mpr z
    have h5 := (h3 (lC L - 1) (by omega)).mp (by omega)
    omega
  · exact z
/-- a change is of an edition up to e just if it is one of the first -/
theorem lE_iff {L : kAl} (w : kWl L) {e k : Nat} (he : e ≤ 100) (hk : k < lNn L) : lEd L k ≤ nI e ↔ k < lE L e := by
  obtain ⟨-, -, ⟨e0, h1, h2, h3⟩, -⟩ := w.2.2.1 k hk
  have hc := w.2.1
  rw [h2, Int32.le_iff_toInt_le, nI_toInt (by omega), nI_toInt (by omega)]
  unfold lE
  split
  · rename_i c
    rw [← h3 e c]
    omega
  · omega
theorem kp_sum_lt {p : Nat → Prop} [∀ k, Decidable (p k)] {f : Nat → Int32} : ∀ (n m : Nat), m ≤ n → (∀ k, m ≤ k → k < n → ¬ p k) → kp_sum (fun k => if p k then f k else 0) n = kp_sum (fun k => if p k then f k else 0) m
  | 0, m, h, _ => by rw [show m = 0 by omega]
  | n + 1, m, h, hp => by
    rcases Nat.eq_or_lt_of_le h with z | z
    · rw [z]
    · show kp_sum _ n + (if p n then f n else 0) = _
      rw [if_neg (hp n (by omega) (by omega)), Int32.add_zero]
      exact kp_sum_lt n m (by omega) (fun k h1 h2 => hp k h1 (by omega))
/-- what the reference adds up for a row is what stands after the first changes -/
theorem lT_m {L : kAl} (w : kWl L) {e t r : Nat} (he : e ≤ 100) : kp_sum (fun k => if lTb L k = nI t ∧ lCe L k = nI r ∧ lEd L k ≤ nI e then lMo L k else 0) (lNn L) = lT L (lE L e) t r := by
  rw [kp_sum_lt (p := fun k => lTb L k = nI t ∧ lCe L k = nI r ∧ lEd L k ≤ nI e) (lNn L) (lE L e) (lE_le w e) (fun k h1 h2 z => by
    have := (lE_iff w he h2).mp z.2.2
    omega)]
  unfold lT
  refine kp_sum_cg _ (fun k hk => ?_)
  have hle := lE_le w e
  by_cases c : lTb L k = nI t ∧ lCe L k = nI r
  · rw [if_pos ⟨c.1, c.2, (lE_iff w he (by omega)).mpr hk⟩, if_pos c]
  · rw [if_neg (fun z => c ⟨z.1, z.2.1⟩), if_neg c]
theorem lT_0 {L : kAl} (t r : Nat) : lT L 0 t r = 0 := rfl
theorem lZ_iff {L : kAl} (w : kWl L) {k : Nat} (hk : k < lNn L) : lEd L k = nI (lC L) ↔ ¬ k < lZ L := by
  obtain ⟨-, -, ⟨e0, h1, h2, h3⟩, -⟩ := w.2.2.1 k hk
  have hc := w.2.1
  rw [h2]
  unfold lZ
  split
  · rename_i c
    constructor
    · intro _; omega
    · intro _; congr 1; omega
  · rename_i c
    rw [← h3 (lC L - 1) (by omega)]
    constructor
    · intro z
      have := (nI_eq (by omega) (by omega)).mp z
      omega
    · intro z; congr 1; omega
theorem kp_sum_ge (m : Nat) {f : Nat → Int32} : ∀ n, m ≤ n → (∀ k, k < n → f k = kp_b (¬ k < m)) → kp_sum f n = nI (n - m)
  | 0, h, _ => by rw [show 0 - m = 0 by omega]; rfl
  | n + 1, h, hf => by
    show kp_sum f n + f n = _
    rw [hf n (by omega)]
    rcases Nat.eq_or_lt_of_le h with z | z
    · rw [kp_bF (by omega), Int32.add_zero, show n + 1 - m = 0 by omega]
      have : kp_sum f n = kp_sum (fun _ => 0) n := kp_sum_cg n (fun k hk => by rw [hf k (by omega), kp_bF (by omega)])
      rw [this]
      have : ∀ j, kp_sum (fun _ => (0 : Int32)) j = 0 := fun j => by
        induction j with
        | zero => rfl
        | succ j ih => show kp_sum _ j + 0 = 0; rw [ih]; rfl
      rw [this]; rfl
    · rw [kp_sum_ge m n (by omega) (fun k hk => hf k (by omega)), kp_bT (by omega), show n + 1 - m = n - m + 1 by omega, nI_succ]
/-- how many changes are open -/
theorem lZ_open {L : kAl} (w : kWl L) : kp_sum (fun k => kp_b (lEd L k = nI (lC L))) (lNn L) = nI (lNn L - lZ L) :=
  kp_sum_ge (lZ L) (lNn L) (lZ_le w) (fun k hk => by
    by_cases c : k < lZ L
    · rw [kp_bF (fun z => (lZ_iff w hk).mp z c), kp_bF (fun z => z c)]
    · rw [kp_bT ((lZ_iff w hk).mpr c), kp_bT c])
/-! ===== what shelves have ===== -/
def kRc {α : Type} (f : Nat → (Nat → α) → α) (z : α) : Nat → Nat → α
  | 0 => fun _ => z
  | n + 1 => fun s => if s = n then f n (kRc f z n) else kRc f z n s
theorem kRc_lt {α : Type} {f : Nat → (Nat → α) → α} {z : α} {s : Nat} : ∀ n, s < n → kRc f z n s = kRc f z (s + 1) s
  | 0, h => absurd h (Nat.not_lt_zero _)
  | n + 1, h => by
    show (if s = n then f n (kRc f z n) else kRc f z n s) = if s = s then f s (kRc f z s) else _
    rw [if_pos rfl]
    by_cases c : s = n
    · rw [if_pos c, c]
    · rw [if_neg c, kRc_lt n (by omega)]
      exact if_pos rfl
theorem kRc_cg {α : Type} {f f' : Nat → (Nat → α) → α} {z : α} : ∀ n, (∀ s, s < n → f s = f' s) → kRc f z n = kRc f' z n
  | 0, _ => rfl
  | n + 1, h => by
    funext s
    show (if s = n then f n (kRc f z n) else kRc f z n s) = if s = n then f' n (kRc f' z n) else kRc f' z n s
    rw [kRc_cg n (fun s hs => h s (by omega)), h n (by omega)]
/-- for which rows a condition's signs hold -/
noncomputable def kHk (tk : List Nat) : Nat → Nat → Bool := @dite _ (∃ H, ∀ H0, kTk 2 H0 tk H) (Classical.propDecidable _) (fun h => Classical.choose h) (fun _ _ _ => false)
theorem kHk_eq {tk : List Nat} {H : Nat → Nat → Bool} (h : ∀ H0, kTk 2 H0 tk H) : kHk tk = H := by
  have hx : ∃ H, ∀ H0, kTk 2 H0 tk H := ⟨H, h⟩
  unfold kHk
  rw [dif_pos hx]
  exact kTk_u (H0 := fun _ _ => false) (Classical.choose_spec hx _) (h _)
noncomputable def kHb (tk : List Nat) : Nat → Int32 := fun a => kb_s (kHk tk a) 16
theorem kHb_bt (tk : List Nat) {a b : Nat} (hb : b < 16) : bt (kHb tk a) b = kHk tk a b := by
  unfold kHb
  rw [kb_bt _ 16 (by omega) b (by omega), decide_eq_true hb, Bool.true_and]
noncomputable def kSVf (ky : Nat → kKey) (T : Nat → Nat → Int32) (s : Nat) (V : Nat → Nat → Int32) : Nat → Int32 := fun r => if (ky s).1 = 0 then T (ky s).2.1 r else kv_op (ky s).1 (kHb (ky s).2.2.2.2) (V ((ky s).2.2.1 - 1)) (V ((ky s).2.2.2.1 - 1)) (r / 16) (r % 16)
/-- what a shelf has, the tables having T -/
noncomputable def kSV (ky : Nat → kKey) (T : Nat → Nat → Int32) (s : Nat) : Nat → Int32 := kRc (kSVf ky T) (fun _ => 0) (s + 1) s
def kMsf (ky : Nat → kKey) (s : Nat) (V : Nat → Int32) : Int32 := (if (ky s).1 = 0 then (1 : Int32) <<< (nI (ky s).2.1 &&& 31) else 0) ||| (if (ky s).2.2.1 = 0 then 0 else V ((ky s).2.2.1 - 1)) ||| (if (ky s).2.2.2.1 = 0 then 0 else V ((ky s).2.2.2.1 - 1))
/-- the tables that a shelf hangs on -/
def kMs (ky : Nat → kKey) (s : Nat) : Int32 := kRc (kMsf ky) 0 (s + 1) s
/-- a key as it stands at s -/
def kKw (s : Nat) (k : kKey) : Prop := kKv s k ∧ (k.1 ≠ 0 → 1 ≤ k.2.2.1) ∧ (9 ≤ k.1 → k.1 ≤ 12 → 1 ≤ k.2.2.2.1) ∧ (¬ (9 ≤ k.1 ∧ k.1 ≤ 12) → k.2.2.2.1 = 0) ∧ (k.1 = 0 → k.2.2.1 = 0)
section SVs
variable {ky ky' : Nat → kKey} {T T' : Nat → Nat → Int32} {s : Nat}
theorem kSV_0 (h : (ky s).1 = 0) (r : Nat) : kSV ky T s r = T (ky s).2.1 r := by
  show (if s = s then kSVf ky T s (kRc (kSVf ky T) (fun _ => 0) s) else _) r = _
  rw [if_pos rfl]
  exact if_pos h
theorem kSV_1 (w : kKw s (ky s)) (h : (ky s).1 ≠ 0) (r : Nat) : kSV ky T s r = kv_op (ky s).1 (kHb (ky s).2.2.2.2) (kSV ky T ((ky s).2.2.1 - 1)) (kSV ky T ((ky s).2.2.2.1 - 1)) (r / 16) (r % 16) := by
  obtain ⟨⟨-, -, w1, w2, -⟩, w3, -⟩ := w
  have w3' := w3 h
  show (if s = s then kSVf ky T s (kRc (kSVf ky T) (fun _ => 0) s) else _) r = _
  rw [if_pos rfl]
  refine (if_neg h).trans ?_
  rw [kRc_lt (s := (ky s).2.2.1 - 1) s (by omega), kRc_lt (s := (ky s).2.2.2.1 - 1) s (by omega)]
  rfl
theorem kSV_ky (e : ∀ s', s' ≤ s → ky s' = ky' s') : kSV ky T s = kSV ky' T s := by
  unfold kSV
  rw [kRc_cg (f := kSVf ky T) (f' := kSVf ky' T) (s + 1) (fun s' hs => by unfold kSVf; rw [e s' (by omega)])]
theorem kMs_ky (e : ∀ s', s' ≤ s → ky s' = ky' s') : kMs ky s = kMs ky' s := by
  unfold kMs
  rw [kRc_cg (f := kMsf ky) (f' := kMsf ky') (s + 1) (fun s' hs => by unfold kMsf; rw [e s' (by omega)])]
theorem kMs_1 (w : kKw s (ky s)) : kMs ky s = (if (ky s).1 = 0 then (1 : Int32) <<< (nI (ky s).2.1 &&& 31) else 0) ||| (if (ky s).2.2.1 = 0 then 0 else kMs ky ((ky s).2.2.1 - 1)) ||| (if (ky s).2.2.2.1 = 0 then 0 else kMs ky ((ky s).2.2.2.1 - 1)) := by
  obtain ⟨⟨-, -, w1, w2, -⟩, -⟩ := w
  show (if s = s then kMsf ky s (kRc (kMsf ky) 0 s) else _) = _
  rw [if_pos rfl]
  unfold kMsf
  have h1 : (if (ky s).2.2.1 = 0 then 0 else kRc (kMsf ky) 0 s ((ky s).2.2.1 - 1)) = (if (ky s).2.2.1 = 0 then 0 else kMs ky ((ky s).2.2.1 - 1)) := by
    split
    · rfl
    · rw [kRc_lt (s := (ky s).2.2.1 - 1) s (by omega)]; rfl
  have h2 : (if (ky s).2.2.2.1 = 0 then 0 else kRc (kMsf ky) 0 s ((ky s).2.2.2.1 - 1)) = (if (ky s).2.2.2.1 = 0 then 0 else kMs ky ((ky s).2.2.2.1 - 1)) := by
    split
    · rfl
    · rw [kRc_lt (s := (ky s).2.2.2.1 - 1) s (by omega)]; rfl
  rw [← h1, ← h2]
  rfl
end SVs
/-- an operator looks at no more than its operands' 256 rows, and at its condition's bits -/
theorem kv_op_cg (op : Nat) {H H' A B A' B' : Nat → Int32} (r : Nat) (hH : op = 13 → ∀ a b, a < 16 → b < 16 → bt (H a) b = bt (H' a) b) (hA : ∀ x, x < 256 → A x = A' x) (hB : (9 ≤ op ∧ op ≤ 12) → ∀ x, x < 256 → B x = B' x) (hr : r < 256) : kv_op op H A B (r / 16) (r % 16) = kv_op op H' A' B' (r / 16) (r % 16) := by
  have hx0 : ∀ a, a < 16 → kx_0 A a = kx_0 A' a := fun a ha => by
    unfold kx_0
    refine b_ext fun i hi => ?_
    rw [kb_bt _ 16 (by omega) i hi, kb_bt _ 16 (by omega) i hi]
    by_cases c : i < 16
    · rw [hA _ (by omega)]
    · rw [decide_eq_false c, Bool.false_and, Bool.false_and]
  have hmk : kv_mark op (fun y => A (16 * (r / 16) + y)) = kv_mark op (fun y => A' (16 * (r / 16) + y)) := by
    have hl : ∀ y, y < 16 → A (16 * (r / 16) + y) = A' (16 * (r / 16) + y) := fun y hy => hA _ (by omega)
    unfold kv_mark
    rw [kp_sum_cg (f := fun y => A (16 * (r / 16) + y)) (f' := fun y => A' (16 * (r / 16) + y)) 16 hl, kp_sum_cg (f := fun b => kp_b (0 < A (16 * (r / 16) + b))) (f' := fun b => kp_b (0 < A' (16 * (r / 16) + b))) 16 (fun b hb => by show kp_b (0 < A _) = kp_b (0 < A' _); rw [hl b hb]), kp_sum_cg (f := fun b => nI b * A (16 * (r / 16) + b)) (f' := fun b => nI b * A' (16 * (r / 16) + b)) 16 (fun b hb => by show nI b * A _ = nI b * A' _; rw [hl b hb])]
    have hq : ∀ z, kv_nth (fun b => decide (0 < A (16 * (r / 16) + b))) z 16 0 0 = kv_nth (fun b => decide (0 < A' (16 * (r / 16) + b))) z 16 0 0 := fun z => kv_nth_cg z 16 0 0 (fun b _ hb => by show decide (0 < A _) = decide (0 < A' _); rw [hl b (by omega)])
    rw [hq, hq, hq]
  by_cases c1 : op = 1 ∨ op = 2 ∨ op = 13
  · rw [kv_opT c1, kv_opT c1]
    rcases c1 with c | c | c
    · rw [kv_take1 c, kv_take1 c]; exact hA _ (by omega)
    · rw [kv_take2 c, kv_take2 c, hA _ (by omega)]
    · rw [kv_take3 c, kv_take3 c, hA _ (by omega), hH c _ _ (by omega) (by omega)]
  · by_cases c2 : op = 8
    · rw [kv_opL c2, kv_opL c2, kx_ext_cg hx0 16 (Nat.le_refl _) (r / 16) (by omega)]
    · by_cases c3 : op = 9
      · rw [kv_opJ c3, kv_opJ c3]
        unfold kv_join kv_jn
        exact kp_sum_cg 16 (fun y hy => by rw [hA _ (by omega), hB (by omega) _ (by omega)])
      · by_cases c4 : op = 10 ∨ op = 11 ∨ op = 12
        · rw [kv_opP c4, kv_opP c4]
          unfold kv_put
          rw [hA _ (by omega), hB (by omega) _ (by omega)]
        · unfold kv_op
          rw [if_neg c1, if_neg c2, if_neg c3, if_neg c4, if_neg c1, if_neg c2, if_neg c3, if_neg c4, hmk]
