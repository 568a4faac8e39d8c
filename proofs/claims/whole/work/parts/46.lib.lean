/-! ===== loops, the heap's algebra, numbers and bits (the rows on bt: out of the kit's BITS.to-paste, its first family) ===== -/
theorem kq_for {P : Nat → Prop} (N : Nat) (hN : P N) (hs : ∀ k, k < N → P (k + 1) → P k) : P 0 := by
  have : ∀ j k, k + j = N → P k := by
    intro j
    induction j with
    | zero => intro k hk; rw [show k = N by omega]; exact hN
    | succ j ih => intro k hk; exact hs k (by omega) (ih (k + 1) (by omega))
  exact this N 0 (by omega)
def kh_u (f : Nat → Int32) (k : Nat) (v : Int32) : Nat → Int32 := fun j => if j = k then v else f j
theorem kh_uS (f : Nat → Int32) (k : Nat) (v : Int32) : kh_u f k v k = v := if_pos rfl
theorem kh_uN (f : Nat → Int32) {k : Nat} (v : Int32) {j : Nat} (h : j ≠ k) : kh_u f k v j = f j := if_neg h
theorem ka_sI_eq (h : ka_H) (a k : Nat) (v : Int32) : ka_sI h a k v = ka_sF h a (kh_u (ka_I h a) k v) := by
  refine Prod.ext rfl (Prod.ext rfl (Prod.ext rfl (Prod.ext ?_ rfl)))
  funext b
  show ka_u h.2.2.2.1 a k v b = (if b = a then kh_u (h.2.2.2.1 a) k v else h.2.2.2.1 b)
  by_cases e : b = a
  · subst e
    rw [if_pos rfl]
    funext j
    unfold ka_u kh_u
    rw [if_pos rfl]
  · rw [if_neg e]
    funext j
    exact ka_uN _ _ _ _ e j
theorem ka_sF_F (h : ka_H) (a : Nat) (f f' : Nat → Int32) : ka_sF (ka_sF h a f) a f' = ka_sF h a f' := by
  refine Prod.ext rfl (Prod.ext rfl (Prod.ext rfl (Prod.ext ?_ rfl)))
  funext b
  show (if b = a then f' else if b = a then f else h.2.2.2.1 b) = if b = a then f' else h.2.2.2.1 b
  by_cases e : b = a
  · rw [if_pos e, if_pos e]
  · rw [if_neg e, if_neg e, if_neg e]
theorem ka_sF_eta (h : ka_H) (a : Nat) : ka_sF h a (ka_I h a) = h := by
  refine Prod.ext rfl (Prod.ext rfl (Prod.ext rfl (Prod.ext ?_ rfl)))
  funext b
  show (if b = a then h.2.2.2.1 a else h.2.2.2.1 b) = h.2.2.2.1 b
  by_cases e : b = a
  · rw [if_pos e, e]
  · rw [if_neg e]
theorem ka_I_F (h : ka_H) (a : Nat) (f : Nat → Int32) : ka_I (ka_sF h a f) a = f := if_pos rfl
theorem ka_I_Fn (h : ka_H) {a b : Nat} (f : Nat → Int32) (e : b ≠ a) : ka_I (ka_sF h a f) b = ka_I h b := if_neg e
theorem ka_sI_F (h : ka_H) (a : Nat) (f : Nat → Int32) (k : Nat) (v : Int32) : ka_sI (ka_sF h a f) a k v = ka_sF h a (kh_u f k v) := by
  rw [ka_sI_eq, ka_sF_F, ka_I_F]
theorem ka_sF_c (h : ka_H) {a b : Nat} (e : a ≠ b) (f f' : Nat → Int32) : ka_sF (ka_sF h a f) b f' = ka_sF (ka_sF h b f') a f := by
  refine Prod.ext rfl (Prod.ext rfl (Prod.ext rfl (Prod.ext ?_ rfl)))
  funext c
  show (if c = b then f' else if c = a then f else h.2.2.2.1 c) = if c = a then f else if c = b then f' else h.2.2.2.1 c
  by_cases e1 : c = a
  · have e2 : ¬ c = b := fun z => e (e1.symm.trans z)
    simp only [if_pos e1, if_neg e2]
  · simp only [if_neg e1]
theorem ka_IS (h : ka_H) (a k : Nat) (v : Int32) : ka_I (ka_sI h a k v) a k = v := ka_uS _ _ _ _
theorem ka_IN (h : ka_H) {a b : Nat} (k : Nat) (v : Int32) (e : b ≠ a) (j : Nat) : ka_I (ka_sI h a k v) b j = ka_I h b j := ka_uN _ _ _ _ e j
theorem ka_IJ (h : ka_H) (a : Nat) {k : Nat} (v : Int32) (b : Nat) {j : Nat} (e : j ≠ k) : ka_I (ka_sI h a k v) b j = ka_I h b j := ka_uJ _ _ _ _ b e
section DK
variable {g : Nat × (Nat → Int32)} {h : ka_H}
theorem kK (hf : kf g h) {a c : Nat} (ha : Nat.blt a 103 = true) (hc : (kt a).1 = c) : (ka_K h a).1 = c := by rw [hf.2.1 a ha]; exact hc
theorem kZ (hf : kf g h) {a c : Nat} (ha : Nat.blt a 103 = true) (hc : (kt a).2 = c) : (ka_K h a).2 = c := by rw [hf.2.1 a ha]; exact hc
theorem kf_F (hf : kf g h) (a : Nat) {f : Nat → Int32} (ha : Nat.blt a 103 = true) (hc : (kt a).1 = 30) : kf g (ka_sF h a f) := kf_sF hf (kK hf ha hc)
/-- an array of ints of this size -/
abbrev kr (h : ka_H) (a n : Nat) : Prop := (ka_K h a).1 = 30 ∧ (ka_K h a).2 = n
theorem kr_in {a n : Nat} (hr : kr h a n) {k : Nat} (hk : k < n) (hn : n < 2 ^ 31) : ((ka_K h a).1 = 30 ∨ (ka_K h a).1 = 40) ∧ vp_in (nI k) (ka_K h a).2 := ⟨Or.inl hr.1, by rw [hr.2]; exact nI_in hk hn⟩
theorem kr_inE {a n : Nat} (hr : kr h a n) {k : Nat} {x : Int32} (e : x = nI k) (hk : k < n) (hn : n < 2 ^ 31) : ((ka_K h a).1 = 30 ∨ (ka_K h a).1 = 40) ∧ vp_in x (ka_K h a).2 := by rw [e]; exact kr_in hr hk hn
theorem kr_st {a n : Nat} (hr : kr h a n) {k : Nat} (hk : k < n) (hn : n < 2 ^ 31) : vp_in (nI k) (ka_K h a).2 := by rw [hr.2]; exact nI_in hk hn
end DK
theorem nI_mul (a b : Nat) : nI a * nI b = nI (a * b) := (Int32.ofNat_mul a b).symm
theorem nI_sub {a b : Nat} (h : b ≤ a) : nI a - nI b = nI (a - b) := (Int32.ofNat_sub a b h).symm
theorem nI_div {a b : Nat} (ha : a < 2 ^ 31) (hb : b < 2 ^ 31) : nI a / nI b = nI (a / b) := (Int32.ofNat_div ha hb).symm
theorem nI_rem {a b : Nat} (ha : a < 2 ^ 31) (hb : b < 2 ^ 31) : nI a - nI a / nI b * nI b = nI (a % b) := by
  rw [nI_div ha hb, nI_mul, nI_sub (Nat.div_mul_le_self a b)]
  congr 1
  have := Nat.div_add_mod a b
  rw [Nat.mul_comm] at this
  omega
/-- cell (a, b), as the class and as the reference reckon it -/
theorem nI_cI (a b : Nat) : nI a * Int32.ofInt 16 + nI b = nI (16 * a + b) := by
  rw [← nI_add, Nat.mul_comm, ← nI_mul]; rfl
theorem nI_cJ (a b : Nat) : Int32.ofInt 16 * nI a + nI b = nI (16 * a + b) := by
  rw [← nI_add, ← nI_mul]; rfl
/-- the first k of v, then the old -/
def kh_o (old v : Nat → Int32) (k : Nat) : Nat → Int32 := fun j => if j < k then v j else old j
theorem kh_o_0 (old v : Nat → Int32) : kh_o old v 0 = old := funext fun _ => if_neg (Nat.not_lt_zero _)
theorem kh_o_s (old v : Nat → Int32) (k : Nat) : kh_u (kh_o old v k) k (v k) = kh_o old v (k + 1) := by
  funext j
  unfold kh_u kh_o
  by_cases e : j = k
  · subst e; rw [if_pos rfl, if_pos (by omega)]
  · rw [if_neg e]
    by_cases e2 : j < k
    · rw [if_pos e2, if_pos (by omega)]
    · rw [if_neg e2, if_neg (by omega)]
theorem kh_o_T (old v : Nat → Int32) {k j : Nat} (h : j < k) : kh_o old v k j = v j := if_pos h
theorem kh_o_F (old v : Nat → Int32) {k j : Nat} (h : ¬ j < k) : kh_o old v k j = old j := if_neg h
def bt (x : Int32) (i : Nat) : Bool := x.toBitVec.getLsbD i
theorem b_ext {x y : Int32} (h : ∀ i, i < 32 → bt x i = bt y i) : x = y := Int32.toBitVec_inj.mp (BitVec.eq_of_getLsbD_eq (fun i hi => h i hi))
theorem b_or (x y : Int32) (i : Nat) : bt (x ||| y) i = (bt x i || bt y i) := by unfold bt; rw [Int32.toBitVec_or, BitVec.getLsbD_or]
theorem b_and (x y : Int32) (i : Nat) : bt (x &&& y) i = (bt x i && bt y i) := by unfold bt; rw [Int32.toBitVec_and, BitVec.getLsbD_and]
theorem b_xor (x y : Int32) (i : Nat) : bt (x ^^^ y) i = (bt x i ^^ bt y i) := by unfold bt; rw [Int32.toBitVec_xor, BitVec.getLsbD_xor]
theorem b_big {x : Int32} {i : Nat} (h : 32 ≤ i) : bt x i = false := BitVec.getLsbD_of_ge _ _ h
theorem b_65535 (i : Nat) : bt 65535 i = decide (i < 16) := by
  rcases Nat.lt_or_ge i 32 with h | h
  · exact (by decide +kernel : ∀ i, i < 32 → bt 65535 i = decide (i < 16)) i h
  · rw [b_big h, decide_eq_false (by omega)]
theorem b_m1 : ∀ i, i < 32 → bt (-1) i = true := by decide +kernel
theorem b_0 (i : Nat) : bt 0 i = false := BitVec.getLsbD_zero
theorem b_1 (i : Nat) : bt 1 i = decide (i = 0) := by
  rcases Nat.lt_or_ge i 32 with h | h
  · exact (by decide +kernel : ∀ i, i < 32 → bt 1 i = decide (i = 0)) i h
  · rw [b_big h, decide_eq_false (by omega)]
theorem s_l : ∀ n, n < 32 → ((nI n &&& 31).toBitVec.smod 32).toNat = n := by decide +kernel
theorem b_shl (n : Nat) (hn : n < 32) (x : Int32) {i : Nat} (hi : i < 32) : bt (x <<< (nI n &&& 31)) i = (decide (n ≤ i) && bt x (i - n)) := by
  unfold bt
  rw [Int32.toBitVec_shiftLeft]
  show (x.toBitVec <<< ((nI n &&& 31).toBitVec.smod 32).toNat).getLsbD i = _
  rw [s_l n hn, BitVec.getLsbD_shiftLeft]
  rcases Nat.lt_or_ge i n with h | h
  · simp [h, Nat.not_le.mpr h]
  · simp [hi, h, Nat.not_lt.mpr h]
theorem b_sshr (n : Nat) (hn : n < 32) (x : Int32) {i : Nat} (hi : i < 32) : bt (x >>> (nI n &&& 31)) i = if n + i < 32 then bt x (n + i) else bt x 31 := by
  unfold bt
  rw [Int32.toBitVec_shiftRight]
  show (x.toBitVec.sshiftRight ((nI n &&& 31).toBitVec.smod 32).toNat).getLsbD i = _
  rw [s_l n hn, BitVec.getLsbD_sshiftRight, BitVec.msb_eq_getLsbD_last]
  simp [hi]
/-- one bit of a set -/
theorem b_bit (x : Int32) {n : Nat} (hn : n < 32) : (x >>> (nI n &&& 31)) &&& 1 = if bt x n = true then 1 else 0 := by
  refine b_ext fun i hi => ?_
  rw [b_and, b_1, b_sshr n hn x hi]
  by_cases e : i = 0
  · subst e
    rw [decide_eq_true rfl, Bool.and_true, Nat.add_zero, if_pos hn]
    split
    · rename_i h; rw [h, b_1]; rfl
    · rename_i h; rw [b_0]; simpa using h
  · rw [decide_eq_false e, Bool.and_false]
    split
    · rw [b_1, decide_eq_false e]
    · rw [b_0]
theorem b_one {n : Nat} (hn : n < 32) {i : Nat} (hi : i < 32) : bt ((1 : Int32) <<< (nI n &&& 31)) i = decide (i = n) := by
  rw [b_shl n hn 1 hi, b_1]
  by_cases e : i = n
  · subst e; simp
  · rw [decide_eq_false e]
    rcases Nat.lt_or_ge i n with h | h
    · rw [decide_eq_false (by omega), Bool.false_and]
    · rw [decide_eq_false (by omega : ¬ i - n = 0), Bool.and_false]
/-- the set of all b below n for which p holds -/
def kb_s (p : Nat → Bool) : Nat → Int32
  | 0 => 0
  | n + 1 => kb_s p n ||| (if p n = true then (1 : Int32) <<< (nI n &&& 31) else 0)
theorem kb_bt (p : Nat → Bool) : ∀ (n : Nat), n ≤ 32 → ∀ i, i < 32 → bt (kb_s p n) i = (decide (i < n) && p i)
  | 0, _, i, _ => by rw [show kb_s p 0 = 0 from rfl, b_0]; simp
  | n + 1, hn, i, hi => by
    rw [show kb_s p (n + 1) = kb_s p n ||| (if p n = true then (1 : Int32) <<< (nI n &&& 31) else 0) from rfl, b_or, kb_bt p n (by omega) i hi]
    by_cases e : i = n
    · subst e
      rw [decide_eq_false (by omega), decide_eq_true (by omega), Bool.false_and, Bool.false_or, Bool.true_and]
      split
      · rename_i h; rw [b_one (by omega) hi, h]; simp
      · rename_i h; rw [b_0]; simpa using h
    · have : bt (if p n = true then (1 : Int32) <<< (nI n &&& 31) else 0) i = false := by
        split
        · rw [b_one (by omega) hi, decide_eq_false e]
        · rw [b_0]
      rw [this, Bool.or_false]
      congr 1
      exact decide_eq_decide.mpr (by omega)
theorem kb_ext {x y : Int32} (h : ∀ i, i < 32 → bt x i = bt y i) : x = y := b_ext h
