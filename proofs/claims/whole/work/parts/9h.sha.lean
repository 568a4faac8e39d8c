/-! ===== shelves: the reference shelves a question's nodes ===== -/
theorem kSx_in {nds : List kN} {N0 : Nat} {ky0 : Nat → kKey} {lv : Nat → Bool} {i s : Nat} {x : kN} (hs : s < (kSv nds N0 ky0 lv i).1) (h1 : (lv s || Nat.ble N0 s) = true) (h2 : (kSv nds N0 ky0 lv i).2.1 s = kKy x (kSv nds N0 ky0 lv i).2.2) (h3 : ∀ s', s' < s → ¬ ((lv s' || Nat.ble N0 s') = true ∧ (kSv nds N0 ky0 lv i).2.1 s' = kKy x (kSv nds N0 ky0 lv i).2.2)) : kSx nds N0 ky0 lv i x = s := by
  refine kFd_in hs ?_ (fun s' h' z => h3 s' h' ?_)
  · show ((lv s || Nat.ble N0 s) && decide (_ = _)) = true
    rw [h1, decide_eq_true h2]
    rfl
  · have z' : ((lv s' || Nat.ble N0 s') && decide ((kSv nds N0 ky0 lv i).2.1 s' = kKy x (kSv nds N0 ky0 lv i).2.2)) = true := z
    rw [Bool.and_eq_true] at z'
    exact ⟨z'.1, of_decide_eq_true z'.2⟩
theorem kSx_no {nds : List kN} {N0 : Nat} {ky0 : Nat → kKey} {lv : Nat → Bool} {i : Nat} {x : kN} (h3 : ∀ s', s' < (kSv nds N0 ky0 lv i).1 → ¬ ((lv s' || Nat.ble N0 s') = true ∧ (kSv nds N0 ky0 lv i).2.1 s' = kKy x (kSv nds N0 ky0 lv i).2.2)) : kSx nds N0 ky0 lv i x = (kSv nds N0 ky0 lv i).1 := by
  refine kFd_no (fun s' h' z => h3 s' h' ?_)
  have z' : ((lv s' || Nat.ble N0 s') && decide ((kSv nds N0 ky0 lv i).2.1 s' = kKy x (kSv nds N0 ky0 lv i).2.2)) = true := z
  rw [Bool.and_eq_true] at z'
  exact ⟨z'.1, of_decide_eq_true z'.2⟩
theorem kNv.le {x : kN} {m m' : Nat} (h : kNv x m) (hm : m ≤ m') : kNv x m' := ⟨h.1, h.2.1, fun z => Nat.lt_of_lt_of_le (h.2.2.1 z) hm, fun z z' => Nat.lt_of_lt_of_le (h.2.2.2.1 z z') hm, h.2.2.2.2⟩
/-- a shelf of the reference whose node is ahead of M -/
def kSB (h : ka_H) (s : Nat) (ky : kKey) (M : Nat) : Prop := ∃ (q j : Nat) (y : kN) (f : Nat → Nat), q < 6 ∧ j < 12 ∧ 12 * q + j < M ∧ ka_I h 92 s = nI (12 * q + j) ∧ kMn (ka_I h) (12 * q + j) y ∧ kNv y j ∧ (1 ≤ y.1 → ka_I h 84 (12 * q + y.2.2.1) = nI (f y.2.2.1)) ∧ (9 ≤ y.1 → y.1 ≤ 12 → ka_I h 84 (12 * q + y.2.2.2.1) = nI (f y.2.2.2.1)) ∧ (∀ k, f k < 72) ∧ ky = kKy y f
theorem kSB.m {h : ka_H} {s M : Nat} {ky : kKey} (q : kSB h s ky M) : kSm h s ky := by
  obtain ⟨q, j, y, f, a1, a2, a3, a4, a5, a6, a7, a8, a9, a10⟩ := q
  exact ⟨q, j, y, f, a1, a2, a4, a5, a6.le (by omega), a7, a8, a9, a10⟩
theorem kMn_eq {h h' : ka_H} {i : Nat} {x : kN} (q : kMn (ka_I h) i x) (e : ∀ a, 80 ≤ a → a ≤ 88 → a ≠ 84 → ka_I h' a = ka_I h a) : kMn (ka_I h') i x := by
  unfold kMn at q ⊢
  rw [e 80 (by omega) (by omega) (by omega), e 81 (by omega) (by omega) (by omega), e 82 (by omega) (by omega) (by omega), e 83 (by omega) (by omega) (by omega), e 85 (by omega) (by omega) (by omega), e 86 (by omega) (by omega) (by omega), e 87 (by omega) (by omega) (by omega), e 88 (by omega) (by omega) (by omega)]
  exact q
theorem kSB.st {h h' : ka_H} {s M M' : Nat} {ky : kKey} (q : kSB h s ky M) (e : ∀ a, 80 ≤ a → a ≤ 88 → a ≠ 84 → ka_I h' a = ka_I h a) (e84 : ∀ k, k < M → ka_I h' 84 k = ka_I h 84 k) (e92 : ka_I h' 92 s = ka_I h 92 s) (hM : M ≤ M') : kSB h' s ky M' := by
  obtain ⟨q, j, y, f, a1, a2, a3, a4, a5, a6, a7, a8, a9, a10⟩ := q
  refine ⟨q, j, y, f, a1, a2, by omega, e92.trans a4, kMn_eq a5 e, a6, fun z => ?_, fun z z' => ?_, a9, a10⟩
  · have := a6.2.2.1 z
    rw [e84 _ (by omega)]
    exact a7 z
  · have := a6.2.2.2.1 z z'
    rw [e84 _ (by omega)]
    exact a8 z z'
