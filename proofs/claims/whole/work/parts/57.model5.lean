/-! ===== the reference: groups, loops ===== -/
theorem nI_256m (k : Nat) : Int32.ofInt 256 * nI k = nI (256 * k) := by rw [← nI_mul]; rfl
theorem nI_16m (k : Nat) : Int32.ofInt 16 * nI k = nI (16 * k) := by rw [← nI_mul]; rfl
theorem nI_12m (k : Nat) : Int32.ofInt 12 * nI k = nI (12 * k) := by rw [← nI_mul]; rfl
theorem nI_200m (k : Nat) : Int32.ofInt 200 * nI k = nI (200 * k) := by rw [← nI_mul]; rfl
theorem nI_m16 (k : Nat) : nI k * Int32.ofInt 16 = nI (16 * k) := by rw [Nat.mul_comm, ← nI_mul]; rfl
/-- v from base on, n numbers long -/
def kh_b (old : Nat → Int32) (base : Nat) (v : Nat → Int32) (n : Nat) : Nat → Int32 := fun j => if base ≤ j ∧ j < base + n then v (j - base) else old j
theorem kh_b_0 (old : Nat → Int32) (base : Nat) (v : Nat → Int32) : kh_b old base v 0 = old := funext fun _ => if_neg (by omega)
theorem kh_b_T (old : Nat → Int32) (base : Nat) (v : Nat → Int32) {n r : Nat} (h : r < n) : kh_b old base v n (base + r) = v r := by
  unfold kh_b
  rw [if_pos (by omega), show base + r - base = r by omega]
theorem kh_b_F (old : Nat → Int32) (base : Nat) (v : Nat → Int32) {n j : Nat} (h : ¬ (base ≤ j ∧ j < base + n)) : kh_b old base v n j = old j := if_neg h
theorem kh_b_s (old : Nat → Int32) (base : Nat) (v : Nat → Int32) (n : Nat) {x : Int32} (e : v n = x) : kh_u (kh_b old base v n) (base + n) x = kh_b old base v (n + 1) := by
  funext j
  unfold kh_u kh_b
  by_cases c : j = base + n
  · rw [if_pos c, if_pos (by omega), show j - base = n by omega, e]
  · rw [if_neg c]
    by_cases c2 : base ≤ j ∧ j < base + n
    · rw [if_pos c2, if_pos (by omega)]
    · rw [if_neg c2, if_neg (by omega)]
theorem kh_b_cg {old v v' : Nat → Int32} {base n : Nat} (e : ∀ j, j < n → v j = v' j) : kh_b old base v n = kh_b old base v' n := by
  funext j
  unfold kh_b
  by_cases c : base ≤ j ∧ j < base + n
  · rw [if_pos c, if_pos c, e _ (by omega)]
  · rw [if_neg c, if_neg c]
theorem kh_b_b {old v v' : Nat → Int32} {base n : Nat} : kh_b (kh_b old base v n) base v' n = kh_b old base v' n := by
  funext j
  unfold kh_b
  by_cases c : base ≤ j ∧ j < base + n
  · rw [if_pos c, if_pos c]
  · rw [if_neg c, if_neg c, if_neg c]
theorem kv_cnt (p : Nat → Prop) [∀ b, Decidable (p b)] : ∀ n, ∃ c, c ≤ n ∧ kp_sum (fun b => kp_b (p b)) n = nI c ∧ (c = 0 ↔ ∀ b, b < n → ¬ p b)
  | 0 => ⟨0, Nat.le_refl _, rfl, ⟨fun _ b hb => absurd hb (Nat.not_lt_zero b), fun _ => rfl⟩⟩
  | n + 1 => by
    obtain ⟨c, h1, h2, h3⟩ := kv_cnt p n
    by_cases e : p n
    · refine ⟨c + 1, by omega, ?_, ⟨fun z => by omega, fun z => absurd e (z n (by omega))⟩⟩
      show kp_sum _ n + kp_b (p n) = _
      rw [h2, kp_bT e, nI_1]
    · refine ⟨c, by omega, ?_, ⟨fun z b hb => ?_, fun z => h3.mpr (fun b hb => z b (by omega))⟩⟩
      · show kp_sum _ n + kp_b (p n) = _
        rw [h2, kp_bF e, Int32.add_zero]
      · rcases Nat.lt_or_ge b n with y | y
        · exact h3.mp z b y
        · rw [show b = n by omega]; exact e
theorem kv_many0 (l : Nat → Int32) : kp_sum (fun b => kp_b (0 < l b)) 16 = 0 ↔ ∀ b, b < 16 → ¬ 0 < l b := by
  obtain ⟨c, h1, h2, h3⟩ := kv_cnt (fun b => 0 < l b) 16
  rw [h2, ← h3, show (0 : Int32) = nI 0 from rfl, nI_eq (by omega) (by omega)]
theorem kv_nth_no {p : Nat → Bool} (k : Int32) : ∀ (j : Nat) (bf : Int32) (b : Nat), (∀ i, b ≤ i → i < b + j → ¬ p i = true) → kv_nth p k j bf b = -1
  | 0, _, _, _ => rfl
  | j + 1, bf, b, h => by
    unfold kv_nth
    rw [if_neg (h b (Nat.le_refl _) (by omega))]
    exact kv_nth_no k j bf (b + 1) (fun i h1 h2 => h i (by omega) (by omega))
theorem kp_sum_cg {f f' : Nat → Int32} : ∀ n, (∀ k, k < n → f k = f' k) → kp_sum f n = kp_sum f' n
  | 0, _ => rfl
  | n + 1, h => by
    show kp_sum f n + f n = kp_sum f' n + f' n
    rw [kp_sum_cg n (fun k hk => h k (by omega)), h n (by omega)]
/-- the mark as the reference finds it -/
theorem kv_mark_m (op : Nat) (ho : 3 ≤ op ∧ op ≤ 7) (l : Nat → Int32) : (if op = 3 then (if 0 < kp_sum l 16 then (if kp_sum l 16 < 15 then kp_sum l 16 else 15) else -1) else if kp_sum (fun b => kp_b (0 < l b)) 16 = 0 then -1 else if op = 4 then kp_sum (fun b => nI b * l b) 16 &&& 15
    else kv_nth (fun b => decide (0 < l b)) (if op = 5 then 0 else if op = 7 then kp_sum (fun b => kp_b (0 < l b)) 16 - 1 else (kp_sum (fun b => kp_b (0 < l b)) 16 - 1) / 2) 16 0 0) = kv_mark op l := by
  have hno : kp_sum (fun b => kp_b (0 < l b)) 16 = 0 → ∀ k, kv_nth (fun b => decide (0 < l b)) k 16 0 0 = -1 := fun z k => by
    refine kv_nth_no k 16 0 0 (fun i _ hi => ?_)
    have := (kv_many0 l).mp z i (by omega)
    simpa using this
  unfold kv_mark
  by_cases h3 : op = 3
  · rw [if_pos h3, if_pos h3]
    by_cases c : 0 < kp_sum l 16
    · rw [if_pos c, if_pos c]
      by_cases c2 : kp_sum l 16 < 15
      · rw [if_pos c2, if_pos (Int32.lt_of_lt_of_le c2 (by decide))]
      · rw [if_neg c2]
        by_cases c3 : kp_sum l 16 < 16
        · rw [if_pos c3]
          rw [Int32.lt_iff_toInt_lt] at c2 c3
          have c4 : ¬ (kp_sum l 16).toInt < 15 := c2
          have c5 : (kp_sum l 16).toInt < 16 := c3
          refine Int32.toInt_inj.mp ?_
          show (15 : Int) = _
          omega
        · rw [if_neg c3]
    · rw [if_neg c, if_neg c]
  · rw [if_neg h3, if_neg h3]
    by_cases c : kp_sum (fun b => kp_b (0 < l b)) 16 = 0
    · rw [if_pos c]
      by_cases h4 : op = 4
      · rw [if_pos h4, if_pos c]
      · rw [if_neg h4, hno c, hno c, hno c]
        split
        · rfl
        · split <;> rfl
    · rw [if_neg c]
      by_cases h4 : op = 4
      · rw [if_pos h4, if_pos h4, if_neg c]
      · rw [if_neg h4, if_neg h4]
        by_cases h5 : op = 5
        · rw [if_pos h5, if_pos h5]
        · rw [if_neg h5, if_neg h5]
          by_cases h6 : op = 6
          · rw [if_neg (by omega), if_pos h6]
          · rw [if_pos (by omega), if_neg h6]
section M5
variable {g : Nat × (Nat → Int32)} {d : Nat} {h : ka_H} {R : ka_R → ka_H → Prop}
theorem kc_nth (hf : kf g h) {f : Nat} (hF : f + 16 ≤ 3072) {k : Int32} : kp_T (d + 1) 204 [.ref 72, .int (nI f), .int k] h (kp_is (.int (kv_nth (fun b => decide (0 < ka_I h 96 (f + b))) k 16 0 0)) h) := by
  refine kq_in hf rfl rfl rfl (kq_seg (fun p => Nat.beq p 5) 6 ?_)
  have head : ∀ j b bf, b + j = 16 → kq_ex g d 204 (kp_is (.int (kv_nth (fun b => decide (0 < ka_I h 96 (f + b))) k j bf b)) h) 5 [.ref 72, .int (nI f), .int k, .int bf, .int (nI b)] [] h := by
    intro j
    induction j with
    | zero =>
      intro b bf hb
      exact kq_seg (fun p => Nat.beq p 5) 30 ⟨fun _ => ⟨trivial, rfl, rfl⟩, fun c => absurd c (nI_nlt (b := 16) (by omega) (by omega))⟩
    | succ j ih =>
      intro b bf hb
      refine kq_seg (fun p => Nat.beq p 5) 30 ⟨fun c => absurd (nI_lt (b := 16) (by omega) (by omega)) c, fun _ => ⟨by rw [nI_add]; exact nI_in (N := 3072) (by omega) (by omega), ?_⟩⟩
      rw [nI_add, nI_clamp (by omega)]
      unfold kv_nth
      refine ⟨fun (c : 0 < ka_I h 96 (f + b)) => ?_, fun (c : ¬ 0 < ka_I h 96 (f + b)) => ?_⟩
      · rw [if_pos (by simpa using c)]
        refine ⟨fun c2 => ?_, fun c2 => ?_⟩
        · rw [if_neg c2]
          have := ih (b + 1) (bf + 1) (by omega)
          rw [nI_succ] at this
          exact this
        · rw [if_pos c2]
          exact ⟨trivial, rfl, rfl⟩
      · rw [if_neg (by simpa using c)]
        have := ih (b + 1) bf (by omega)
        rw [nI_succ] at this
        exact this
  exact head 16 0 0 (by omega)
theorem kc_groups (hf : kf g h) {op f t : Nat} (ho : 3 ≤ op ∧ op ≤ 7) (hF : f + 16 ≤ 3072) (hT : t + 16 ≤ 3072)
    (e1 : kv_mark op (fun y => ka_I h 96 (f + y)) = -1 → R (.inl none) h) (e2 : ∀ m, m < 16 → kv_mark op (fun y => ka_I h 96 (f + y)) = nI m → R (.inl none) (ka_sF h 96 (kh_u (ka_I h 96) (t + m) 1))) : kp_T (d + 2) 203 [.ref 72, .int (nI op), .int (nI f), .int (nI t)] h R := by
  have hmk := kv_mark_m op ho (fun y => ka_I h 96 (f + y))
  have j164 : ∀ (w : Int32) (z4 z5 z6 z7 : Value), w = kv_mark op (fun y => ka_I h 96 (f + y)) → kq_ex g (d + 1) 203 R 164 [.ref 72, .int (nI op), .int (nI f), .int (nI t), z4, z5, z6, z7] [.int w] h := by
    intro w z4 z5 z6 z7 hw
    rw [← hw] at e1 e2
    refine kq_seg kp_no 20 ⟨fun c => e1 c, fun c => ?_⟩
    have hrg := kv_mark_rg op (fun y => ka_I h 96 (f + y))
    rw [← hw] at hrg
    obtain ⟨m, hm, em⟩ := hrg.resolve_left c
    refine ⟨by rw [em, nI_add]; exact nI_in (N := 3072) (by omega) (by omega), ?_⟩
    rw [em, nI_add, nI_clamp (by omega)]
    have := e2 m hm em
    rw [← ka_sI_eq] at this
    exact this
  have j78 : kq_ex g (d + 1) 203 R 78 [.ref 72, .int (nI op), .int (nI f), .int (nI t), .int (kp_sum (fun y => ka_I h 96 (f + y)) 16), .int (kp_sum (fun b => nI b * ka_I h 96 (f + b)) 16), .int (kp_sum (fun b => kp_b (0 < ka_I h 96 (f + b))) 16), .int (nI 16)] [] h := by
    generalize hN : kp_sum (fun y => ka_I h 96 (f + y)) 16 = N at hmk
    generalize hS : kp_sum (fun b => nI b * ka_I h 96 (f + b)) 16 = S at hmk
    generalize hM : kp_sum (fun b => kp_b (0 < ka_I h 96 (f + b))) 16 = M at hmk
    refine kq_seg (fun p => Nat.beq p 164) 40 ⟨fun c => ?_, fun c => ?_⟩
    · have c1 : ¬ op = 3 := fun z => c (by rw [z]; rfl)
      rw [if_neg c1] at hmk
      refine ⟨fun c2 => ?_, fun c2 => ?_⟩
      · rw [if_neg c2] at hmk
        refine ⟨fun c3 => ?_, fun c3 => ?_⟩
        · have c4 : ¬ op = 4 := fun z => c3 (by rw [z]; rfl)
          rw [if_neg c4] at hmk
          refine ⟨fun c5 => ?_, fun c5 => ?_⟩
          · have c6 : ¬ op = 5 := fun z => c5 (by rw [z]; rfl)
            rw [if_neg c6] at hmk
            refine ⟨fun c7 => ⟨by decide, ?_⟩, fun c7 => ?_⟩
            · rw [if_neg (fun z => c7 (by rw [z]; rfl))] at hmk
              exact kp_opq (kc_nth hf hF) (fun w hw => ⟨hf, j164 w _ _ _ _ (hw.trans (by rw [oi1, oi2]; exact hmk))⟩)
            · rw [if_pos ((nI_eq (b := 7) (by omega) (by omega)).mp c7)] at hmk
              exact kp_opq (kc_nth hf hF) (fun w hw => ⟨hf, j164 w _ _ _ _ (hw.trans (by rw [oi1]; exact hmk))⟩)
          · rw [if_pos ((nI_eq (b := 5) (by omega) (by omega)).mp c5)] at hmk
            exact kp_opq (kc_nth hf hF) (fun w hw => ⟨hf, j164 w _ _ _ _ (hw.trans (by rw [oi0]; exact hmk))⟩)
        · rw [if_pos ((nI_eq (b := 4) (by omega) (by omega)).mp c3)] at hmk
          exact j164 _ _ _ _ _ hmk
      · rw [if_pos c2] at hmk
        exact j164 _ _ _ _ _ hmk
    · rw [if_pos ((nI_eq (b := 3) (by omega) (by omega)).mp c)] at hmk
      refine ⟨fun c2 => ?_, fun c2 => ?_⟩
      · rw [if_neg c2] at hmk
        exact j164 _ _ _ _ _ hmk
      · rw [if_pos c2] at hmk
        refine ⟨fun c3 => ?_, fun c3 => ?_⟩
        · rw [if_neg (c := N < 15) c3] at hmk
          exact j164 _ _ _ _ _ hmk
        · rw [if_pos (c := N < 15) c3] at hmk
          exact j164 _ _ _ _ _ hmk
  refine kq_in hf rfl rfl rfl (kq_seg (fun p => Nat.beq p 12) 12 ?_)
  refine kq_for (P := fun k => kq_ex g (d + 1) 203 R 12 [.ref 72, .int (nI op), .int (nI f), .int (nI t), .int (kp_sum (fun y => ka_I h 96 (f + y)) k), .int (kp_sum (fun b => nI b * ka_I h 96 (f + b)) k), .int (kp_sum (fun b => kp_b (0 < ka_I h 96 (f + b))) k), .int (nI k)] [] h) 16 ?_ (fun k hk ih => ?_)
  · exact kq_seg (fun p => Nat.beq p 78) 10 ⟨fun _ => j78, fun c => absurd c (nI_nlt (b := 16) (by omega) (by omega))⟩
  · have hin : vp_in (nI f + nI k) 3072 := by rw [nI_add]; exact nI_in (N := 3072) (by omega) (by omega)
    refine kq_seg (fun p => Nat.beq p 12) 50 ⟨fun c => absurd (nI_lt (b := 16) hk (by omega)) c, fun _ => ⟨hin, ⟨hin, ⟨hin, ?_⟩⟩⟩⟩
    rw [nI_add, nI_clamp (by omega)]
    rw [nI_succ] at ih
    refine ⟨fun (c : ¬ 0 < ka_I h 96 (f + k)) => ?_, fun (c : 0 < ka_I h 96 (f + k)) => ?_⟩
    · rw [show kp_sum (fun b => kp_b (0 < ka_I h 96 (f + b))) (k + 1) = kp_sum (fun b => kp_b (0 < ka_I h 96 (f + b))) k + 0 by show _ + kp_b _ = _; rw [kp_bF c]] at ih
      exact ih
    · rw [show kp_sum (fun b => kp_b (0 < ka_I h 96 (f + b))) (k + 1) = kp_sum (fun b => kp_b (0 < ka_I h 96 (f + b))) k + 1 by show _ + kp_b _ = _; rw [kp_bT c]] at ih
      exact ih
end M5
