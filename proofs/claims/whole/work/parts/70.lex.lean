/-! ===== texts: blanks, runs, words ===== -/
def kt_sk (tp : Nat → Int32) : Nat → Nat → Nat
  | 0, p => p
  | f + 1, p => if tp p = 32 then kt_sk tp f (p + 1) else p
/-- the first place from p on that has no blank -/
def kt_s (tp : Nat → Int32) (n p : Nat) : Nat := kt_sk tp (n - p) p
theorem kt_s_ge {tp : Nat → Int32} {n p : Nat} (h : n ≤ p) : kt_s tp n p = p := by
  unfold kt_s
  rw [show n - p = 0 by omega]
  rfl
theorem kt_s_st {tp : Nat → Int32} {n p : Nat} (h : p < n) (e : tp p = 32) : kt_s tp n p = kt_s tp n (p + 1) := by
  unfold kt_s
  rw [show n - p = (n - (p + 1)) + 1 by omega]
  show (if tp p = 32 then _ else _) = _
  rw [if_pos e]
theorem kt_s_no {tp : Nat → Int32} {n p : Nat} (e : ¬ tp p = 32) : kt_s tp n p = p := by
  unfold kt_s
  cases n - p with
  | zero => rfl
  | succ f =>
    show (if tp p = 32 then _ else _) = _
    rw [if_neg e]
theorem kt_s_ind {tp : Nat → Int32} {n : Nat} {P : Nat → Prop} (h1 : ∀ p, n ≤ p → P p) (h2 : ∀ p, p < n → ¬ tp p = 32 → P p) (h3 : ∀ p, p < n → tp p = 32 → P (p + 1) → P p) : ∀ p, P p := by
  have : ∀ j p, n - p = j → P p := by
    intro j
    induction j with
    | zero => intro p hp; exact h1 p (by omega)
    | succ j ih =>
      intro p hp
      by_cases e : tp p = 32
      · exact h3 p (by omega) e (ih (p + 1) (by omega))
      · exact h2 p (by omega) e
  exact fun p => this _ p rfl
theorem kt_s_le (tp : Nat → Int32) (n : Nat) : ∀ p, p ≤ n → p ≤ kt_s tp n p ∧ kt_s tp n p ≤ n := by
  refine kt_s_ind (tp := tp) (n := n) (fun p hp h => ?_) (fun p hp e h => ?_) (fun p hp e ih h => ?_)
  · rw [kt_s_ge hp]; omega
  · rw [kt_s_no e]; omega
  · rw [kt_s_st hp e]
    have := ih (by omega)
    omega
theorem kt_s_end (tp : Nat → Int32) (n : Nat) : ∀ p, kt_s tp n p < n → ¬ tp (kt_s tp n p) = 32 := by
  refine kt_s_ind (tp := tp) (n := n) (fun p hp h => ?_) (fun p hp e h => ?_) (fun p hp e ih h => ?_)
  · rw [kt_s_ge hp] at h; omega
  · rw [kt_s_no e]; exact e
  · rw [kt_s_st hp e] at h ⊢
    exact ih h
theorem kt_s_id {tp : Nat → Int32} {n p : Nat} (hp : p ≤ n) : kt_s tp n (kt_s tp n p) = kt_s tp n p := by
  rcases Nat.lt_or_ge (kt_s tp n p) n with h | h
  · exact kt_s_no (kt_s_end tp n p h)
  · exact kt_s_ge h
def kt_rk (q : Int32 → Bool) (tp : Nat → Int32) : Nat → Nat → Nat
  | 0, _ => 0
  | f + 1, p => if q (tp p) = true then kt_rk q tp f (p + 1) + 1 else 0
/-- how many bytes of a kind stand from p on -/
def kt_r (q : Int32 → Bool) (tp : Nat → Int32) (n p : Nat) : Nat := kt_rk q tp (n - p) p
theorem kt_r_ge {q : Int32 → Bool} {tp : Nat → Int32} {n p : Nat} (h : n ≤ p) : kt_r q tp n p = 0 := by
  unfold kt_r
  rw [show n - p = 0 by omega]
  rfl
theorem kt_r_st {q : Int32 → Bool} {tp : Nat → Int32} {n p : Nat} (h : p < n) (e : q (tp p) = true) : kt_r q tp n p = kt_r q tp n (p + 1) + 1 := by
  unfold kt_r
  rw [show n - p = (n - (p + 1)) + 1 by omega]
  show (if q (tp p) = true then _ else _) = _
  rw [if_pos e]
theorem kt_r_no {q : Int32 → Bool} {tp : Nat → Int32} {n p : Nat} (e : ¬ q (tp p) = true) : kt_r q tp n p = 0 := by
  unfold kt_r
  cases n - p with
  | zero => rfl
  | succ f =>
    show (if q (tp p) = true then _ else _) = _
    rw [if_neg e]
theorem kt_r_ind {q : Int32 → Bool} {tp : Nat → Int32} {n : Nat} {P : Nat → Prop} (h1 : ∀ p, n ≤ p → P p) (h2 : ∀ p, p < n → ¬ q (tp p) = true → P p) (h3 : ∀ p, p < n → q (tp p) = true → P (p + 1) → P p) : ∀ p, P p := by
  have : ∀ j p, n - p = j → P p := by
    intro j
    induction j with
    | zero => intro p hp; exact h1 p (by omega)
    | succ j ih =>
      intro p hp
      by_cases e : q (tp p) = true
      · exact h3 p (by omega) e (ih (p + 1) (by omega))
      · exact h2 p (by omega) e
  exact fun p => this _ p rfl
theorem kt_r_le (q : Int32 → Bool) (tp : Nat → Int32) (n : Nat) : ∀ p, p ≤ n → p + kt_r q tp n p ≤ n := by
  refine kt_r_ind (q := q) (tp := tp) (n := n) (fun p hp h => ?_) (fun p hp e h => ?_) (fun p hp e ih h => ?_)
  · rw [kt_r_ge hp]; omega
  · rw [kt_r_no e]; omega
  · rw [kt_r_st hp e]
    have := ih (by omega)
    omega
theorem kt_r_in (q : Int32 → Bool) (tp : Nat → Int32) (n : Nat) : ∀ p i, i < kt_r q tp n p → q (tp (p + i)) = true := by
  refine kt_r_ind (q := q) (tp := tp) (n := n) (fun p hp i h => ?_) (fun p hp e i h => ?_) (fun p hp e ih i h => ?_)
  · rw [kt_r_ge hp] at h; omega
  · rw [kt_r_no e] at h; omega
  · rw [kt_r_st hp e] at h
    rcases Nat.eq_zero_or_pos i with z | z
    · rw [z]; exact e
    · have := ih (i - 1) (by omega)
      rw [show p + 1 + (i - 1) = p + i by omega] at this
      exact this
theorem kt_r_0 {q : Int32 → Bool} {tp : Nat → Int32} {n p : Nat} (h : p < n) : 0 < kt_r q tp n p ↔ q (tp p) = true := by
  by_cases e : q (tp p) = true
  · rw [kt_r_st h e]; exact ⟨fun _ => e, fun _ => by omega⟩
  · rw [kt_r_no e]; exact ⟨fun z => by omega, fun z => absurd z e⟩
def kt_sm (c : Int32) : Bool := decide (97 ≤ c ∧ c ≤ 122)
def kt_dg (c : Int32) : Bool := decide (48 ≤ c ∧ c ≤ 57)
/-- a word's number -/
def kt_hs (tp : Nat → Int32) (p : Nat) : Nat → Int32
  | 0 => 0
  | k + 1 => if k < 6 then kt_hs tp p k <<< ((5 : Int32) &&& 31) ||| (tp (p + k) - 96) else 0
def kt_w (tp : Nat → Int32) (n p : Nat) : Int32 := if 6 < kt_r kt_sm tp n p then 0 else kt_hs tp p (kt_r kt_sm tp n p)
/-- just this word stands there -/
def kt_is (tp : Nat → Int32) (n p : Nat) (w : List Nat) : Prop := kt_r kt_sm tp n p = w.length ∧ ∀ i, i < w.length → tp (p + i) = nI (w.getD i 0)
def kt_hl : List Nat → Nat → Nat
  | [], a => a
  | c :: l, a => kt_hl l (a * 32 + c)
theorem kt_hl_ap : ∀ (l : List Nat) (c a : Nat), kt_hl (l ++ [c]) a = kt_hl l a * 32 + c
  | [], _, _ => rfl
  | _ :: l, c, a => kt_hl_ap l c _
/-- a list of digits from 1 to 26 is told by its number -/
theorem kt_hl_inj : ∀ (n : Nat) (l l' : List Nat), l.length = n → (∀ c, c ∈ l → 1 ≤ c ∧ c ≤ 26) → (∀ c, c ∈ l' → 1 ≤ c ∧ c ≤ 26) → kt_hl l 0 = kt_hl l' 0 → l = l'
  | 0, l, l', hl, _, h2, e => by
    have hl0 : l = [] := List.eq_nil_of_length_eq_zero hl
    subst hl0
    rcases List.eq_nil_or_concat l' with z | ⟨m, c, z⟩
    · rw [z]
    · subst z
      rw [List.concat_eq_append, kt_hl_ap] at e
      have := h2 c (by simp)
      have e' : (0 : Nat) = kt_hl m 0 * 32 + c := e
      omega
  | n + 1, l, l', hl, h1, h2, e => by
    rcases List.eq_nil_or_concat l with z | ⟨m, c, z⟩
    · subst z; simp at hl
    · subst z
      rw [List.concat_eq_append] at hl h1 e ⊢
      rcases List.eq_nil_or_concat l' with z | ⟨m', c', z⟩
      · subst z
        rw [kt_hl_ap] at e
        have := h1 c (by simp)
        have e' : kt_hl m 0 * 32 + c = 0 := e
        omega
      · subst z
        rw [List.concat_eq_append] at h2 e ⊢
        rw [kt_hl_ap, kt_hl_ap] at e
        have b1 := h1 c (by simp)
        have b2 := h2 c' (by simp)
        have ec : c = c' := by omega
        have em : kt_hl m 0 = kt_hl m' 0 := by omega
        rw [kt_hl_inj n m m' (by simp at hl; omega) (fun x hx => h1 x (by simp [hx])) (fun x hx => h2 x (by simp [hx])) em, ec]
/-- the run's letters as digits -/
def kt_dl (tp : Nat → Int32) (p L : Nat) : List Nat := (List.range L).map (fun i => (tp (p + i)).toInt.toNat - 96)
theorem kt_or5 {a b : Nat} (ha : a < 2 ^ 25) (hb : b < 32) : nI a <<< ((5 : Int32) &&& 31) ||| nI b = nI (a * 32 + b) := by
  rw [pk_shlN (n := a) _ 5 (by decide) (by omega)]
  refine b_ext fun i hi => ?_
  rw [b_or]
  unfold bt nI
  show ((BitVec.ofNat 32 (a * 2 ^ 5)).getLsbD i || (BitVec.ofNat 32 b).getLsbD i) = (BitVec.ofNat 32 (a * 32 + b)).getLsbD i
  rw [BitVec.getLsbD_ofNat, BitVec.getLsbD_ofNat, BitVec.getLsbD_ofNat, decide_eq_true hi, Bool.true_and, Bool.true_and, Bool.true_and]
  rw [← Nat.testBit_or, show a * 2 ^ 5 ||| b = a * 32 + b by
    rw [Nat.mul_comm]
    exact (Nat.two_pow_add_eq_or_of_lt (by omega : b < 2 ^ 5) a).symm.trans (by omega)]
theorem kt_sm_b {c : Int32} (h : kt_sm c = true) : 97 ≤ c.toInt ∧ c.toInt ≤ 122 := by
  unfold kt_sm at h
  have := of_decide_eq_true h
  rw [Int32.le_iff_toInt_le, Int32.le_iff_toInt_le] at this
  exact this
theorem kt_hs_n {tp : Nat → Int32} {p : Nat} : ∀ k, k ≤ 6 → (∀ i, i < k → kt_sm (tp (p + i)) = true) → kt_hs tp p k = nI (kt_hl (kt_dl tp p k) 0) ∧ kt_hl (kt_dl tp p k) 0 < 32 ^ k
  | 0, _, _ => ⟨rfl, (show (0 : Nat) < 32 ^ 0 by decide)⟩
  | k + 1, hk, h => by
    obtain ⟨e, hlt⟩ := kt_hs_n k (by omega) (fun i hi => h i (by omega))
    have hb := kt_sm_b (h k (by omega))
    have hd : kt_dl tp p (k + 1) = kt_dl tp p k ++ [(tp (p + k)).toInt.toNat - 96] := by
      unfold kt_dl
      rw [List.range_succ, List.map_append]
      rfl
    have h5 : (32 : Nat) ^ k ≤ 32 ^ 5 := Nat.pow_le_pow_right (by decide) (by omega)
    have hm : tp (p + k) = nI (tp (p + k)).toInt.toNat := Int32.toInt_inj.mp (by rw [nI_toInt (by omega)]; omega)
    have hc : tp (p + k) - 96 = nI ((tp (p + k)).toInt.toNat - 96) := by
      rw [← nI_sub (b := 96) (by omega), ← hm]
      rfl
    refine ⟨?_, ?_⟩
    · show (if k < 6 then _ else _) = _
      rw [if_pos (by omega), e, hc, kt_or5 (by omega) (by omega), hd, kt_hl_ap]
    · rw [hd, kt_hl_ap, Nat.pow_succ]
      omega
/-- a word's number tells the word -/
theorem kt_w_is {tp : Nat → Int32} {n p : Nat} (w : List Nat) (W : Int32) (hw : w.length ≤ 6) (h1 : 1 ≤ w.length) (hb : ∀ c, c ∈ w → 97 ≤ c ∧ c ≤ 122) (hW : W = nI (kt_hl (w.map (fun c => c - 96)) 0)) : kt_w tp n p = W ↔ kt_is tp n p w := by
  unfold kt_w kt_is
  have hin := kt_r_in kt_sm tp n p
  have hwd : ∀ c, c ∈ w.map (fun c => c - 96) → 1 ≤ c ∧ c ≤ 26 := fun c hc => by
    obtain ⟨x, hx, rfl⟩ := List.mem_map.mp hc
    have := hb x hx
    omega
  have hWlt : ∀ (l : List Nat) (a : Nat), (∀ c, c ∈ l → 1 ≤ c ∧ c ≤ 26) → kt_hl l a < (a + 1) * 32 ^ l.length := by
    intro l
    induction l with
    | nil => intro a _; simp [kt_hl]
    | cons c l ih =>
      intro a hc
      have := ih (a * 32 + c) (fun x hx => hc x (by simp [hx]))
      have hc1 := hc c (by simp)
      show kt_hl l (a * 32 + c) < _
      rw [List.length_cons, Nat.pow_succ]
      refine Nat.lt_of_lt_of_le this ?_
      rw [show (a + 1) * (32 ^ l.length * 32) = ((a + 1) * 32) * 32 ^ l.length by rw [Nat.mul_comm (32 ^ l.length) 32, ← Nat.mul_assoc]]
      exact Nat.mul_le_mul_right _ (by omega)
  have hWb : kt_hl (w.map (fun c => c - 96)) 0 < 32 ^ 6 := by
    have := hWlt _ 0 hwd
    rw [List.length_map] at this
    have h6 : (32 : Nat) ^ w.length ≤ 32 ^ 6 := Nat.pow_le_pow_right (by decide) hw
    omega
  have hWpos : 0 < kt_hl (w.map (fun c => c - 96)) 0 := by
    refine Nat.pos_of_ne_zero fun z => ?_
    have := kt_hl_inj 0 [] (w.map (fun c => c - 96)) rfl (fun c hc => by simp at hc) hwd z.symm
    have := congrArg List.length this
    rw [List.length_map] at this
    simp at this
    omega
  by_cases c6 : 6 < kt_r kt_sm tp n p
  · rw [if_pos c6, hW]
    refine ⟨fun z => ?_, fun z => by omega⟩
    have := (nI_eq (a := 0) (by omega) (by omega)).mp z
    omega
  · rw [if_neg c6]
    obtain ⟨e, hlt⟩ := kt_hs_n (tp := tp) (p := p) (kt_r kt_sm tp n p) (by omega) hin
    have h6 : (32 : Nat) ^ (kt_r kt_sm tp n p) ≤ 32 ^ 6 := Nat.pow_le_pow_right (by decide) (by omega)
    have hdd : ∀ c, c ∈ kt_dl tp p (kt_r kt_sm tp n p) → 1 ≤ c ∧ c ≤ 26 := fun c hc => by
      unfold kt_dl at hc
      obtain ⟨i, hi, rfl⟩ := List.mem_map.mp hc
      have := kt_sm_b (hin i (by simpa using hi))
      omega
    rw [e, hW, nI_eq (by omega) (by omega)]
    refine ⟨fun z => ?_, fun z => ?_⟩
    · have hl := kt_hl_inj _ _ _ rfl hdd hwd z
      have hlen : kt_r kt_sm tp n p = w.length := by
        have := congrArg List.length hl
        unfold kt_dl at this
        simpa using this
      refine ⟨hlen, fun i hi => ?_⟩
      have h7 := kt_sm_b (hin i (by omega))
      have := congrArg (fun l => l.getD i 0) hl
      unfold kt_dl at this
      simp only [List.getD_eq_getElem?_getD, List.getElem?_map, List.getElem?_range (show i < kt_r kt_sm tp n p by omega)] at this
      have hwi : w[i]? = some (w[i]'hi) := List.getElem?_eq_getElem hi
      rw [hwi] at this
      have hm := hb (w[i]'hi) (List.getElem_mem hi)
      have this' : (tp (p + i)).toInt.toNat - 96 = w[i]'hi - 96 := this
      rw [List.getD_eq_getElem?_getD, hwi]
      refine Int32.toInt_inj.mp ?_
      show _ = (nI (w[i]'hi)).toInt
      rw [nI_toInt (by omega)]
      omega
    · rw [show kt_dl tp p (kt_r kt_sm tp n p) = w.map (fun c => c - 96) by
        refine List.ext_getElem (by unfold kt_dl; simpa using z.1) (fun i h1 h2 => ?_)
        have hi : i < w.length := by simpa using h2
        have := z.2 i hi
        rw [List.getD_eq_getElem?_getD, List.getElem?_eq_getElem hi] at this
        have hm := hb (w[i]'hi) (List.getElem_mem hi)
        simp only [kt_dl, List.getElem_map, List.getElem_range]
        rw [this]
        show (nI (w[i]'hi)).toInt.toNat - 96 = _
        rw [nI_toInt (by omega)]
        omega]
