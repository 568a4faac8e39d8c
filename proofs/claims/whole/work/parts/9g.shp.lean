/-! ===== shelves: what shelving does, both sides ===== -/
/-- the first below N, or N -/
def kFd (p : Nat → Bool) : Nat → Nat
  | 0 => 0
  | N + 1 => if kFd p N < N then kFd p N else if p N = true then N else N + 1
theorem kFd_le (p : Nat → Bool) : ∀ N, kFd p N ≤ N
  | 0 => Nat.le_refl _
  | N + 1 => by
    have := kFd_le p N
    show (if kFd p N < N then kFd p N else if p N = true then N else N + 1) ≤ N + 1
    split
    · omega
    · split <;> omega
theorem kFd_sp (p : Nat → Bool) : ∀ N, (∀ s, s < kFd p N → ¬ p s = true) ∧ (kFd p N < N → p (kFd p N) = true)
  | 0 => ⟨fun s hs => absurd hs (Nat.not_lt_zero s), fun h => absurd h (Nat.not_lt_zero _)⟩
  | N + 1 => by
    have h1 := kFd_sp p N
    have h2 := kFd_le p N
    show (∀ s, s < (if kFd p N < N then kFd p N else if p N = true then N else N + 1) → ¬ p s = true) ∧ ((if kFd p N < N then kFd p N else if p N = true then N else N + 1) < N + 1 → p (if kFd p N < N then kFd p N else if p N = true then N else N + 1) = true)
    by_cases c : kFd p N < N
    · rw [if_pos c]
      exact ⟨h1.1, fun _ => h1.2 c⟩
    · rw [if_neg c]
      have e : kFd p N = N := by omega
      rw [e] at h1
      by_cases c2 : p N = true
      · rw [if_pos c2]
        exact ⟨h1.1, fun _ => c2⟩
      · rw [if_neg c2]
        refine ⟨fun s hs => ?_, fun z => absurd z (Nat.lt_irrefl _)⟩
        rcases Nat.lt_or_ge s N with y | y
        · exact h1.1 s y
        · rw [show s = N by omega]; exact c2
theorem kFd_in {p : Nat → Bool} {N s : Nat} (hs : s < N) (h1 : p s = true) (h2 : ∀ s', s' < s → ¬ p s' = true) : kFd p N = s := by
  have h := kFd_sp p N
  rcases Nat.lt_or_ge (kFd p N) s with y | y
  · exact absurd (h.2 (by omega)) (h2 _ y)
  · rcases Nat.eq_or_lt_of_le y with z | z
    · exact z.symm
    · exact absurd h1 (h.1 s z)
theorem kFd_no {p : Nat → Bool} {N : Nat} (h : ∀ s, s < N → ¬ p s = true) : kFd p N = N := by
  have h1 := kFd_le p N
  rcases Nat.lt_or_ge (kFd p N) N with y | y
  · exact absurd ((kFd_sp p N).2 y) (h _ y)
  · omega
/-- shelving, after i nodes: how many shelves, their keys, the nodes' shelves; lv: the shelves of old that are there -/
def kSv (nds : List kN) (N0 : Nat) (ky0 : Nat → kKey) (lv : Nat → Bool) : Nat → Nat × (Nat → kKey) × (Nat → Nat)
  | 0 => (N0, ky0, fun _ => 0)
  | i + 1 => match nds[i]? with
    | none => kSv nds N0 ky0 lv i
    | some x =>
      (if kFd (fun s => (lv s || Nat.ble N0 s) && decide ((kSv nds N0 ky0 lv i).2.1 s = kKy x (kSv nds N0 ky0 lv i).2.2)) (kSv nds N0 ky0 lv i).1 < (kSv nds N0 ky0 lv i).1 then (kSv nds N0 ky0 lv i).1 else (kSv nds N0 ky0 lv i).1 + 1,
       (fun s => if s = (kSv nds N0 ky0 lv i).1 then kKy x (kSv nds N0 ky0 lv i).2.2 else (kSv nds N0 ky0 lv i).2.1 s),
       fun j => if j = i then kFd (fun s => (lv s || Nat.ble N0 s) && decide ((kSv nds N0 ky0 lv i).2.1 s = kKy x (kSv nds N0 ky0 lv i).2.2)) (kSv nds N0 ky0 lv i).1 else (kSv nds N0 ky0 lv i).2.2 j)
section SP
variable {nds : List kN} {N0 : Nat} {ky0 : Nat → kKey} {lv : Nat → Bool}
/-- where the next node goes -/
def kSx (nds : List kN) (N0 : Nat) (ky0 : Nat → kKey) (lv : Nat → Bool) (i : Nat) (x : kN) : Nat := kFd (fun s => (lv s || Nat.ble N0 s) && decide ((kSv nds N0 ky0 lv i).2.1 s = kKy x (kSv nds N0 ky0 lv i).2.2)) (kSv nds N0 ky0 lv i).1
theorem kSv_s {i : Nat} {x : kN} (h : nds[i]? = some x) : kSv nds N0 ky0 lv (i + 1) = (if kSx nds N0 ky0 lv i x < (kSv nds N0 ky0 lv i).1 then (kSv nds N0 ky0 lv i).1 else (kSv nds N0 ky0 lv i).1 + 1, (fun s => if s = (kSv nds N0 ky0 lv i).1 then kKy x (kSv nds N0 ky0 lv i).2.2 else (kSv nds N0 ky0 lv i).2.1 s), fun j => if j = i then kSx nds N0 ky0 lv i x else (kSv nds N0 ky0 lv i).2.2 j) := by
  rw [kSv, h]
  rfl
theorem kSx_le {i : Nat} {x : kN} : kSx nds N0 ky0 lv i x ≤ (kSv nds N0 ky0 lv i).1 := kFd_le _ _
theorem kSv_N : ∀ i, i ≤ nds.length → N0 ≤ (kSv nds N0 ky0 lv i).1 ∧ (kSv nds N0 ky0 lv i).1 ≤ N0 + i ∧ ∀ j, j < i → (kSv nds N0 ky0 lv i).2.2 j < (kSv nds N0 ky0 lv i).1 := by
  intro i
  induction i with
  | zero => exact fun _ => ⟨Nat.le_refl _, Nat.le_refl _, fun j hj => absurd hj (Nat.not_lt_zero j)⟩
  | succ i ih =>
    intro hi
    obtain ⟨h1, h2, h3⟩ := ih (by omega)
    have hx : nds[i]? = some nds[i] := List.getElem?_eq_getElem (by omega)
    rw [kSv_s hx]
    have hle := kSx_le (nds := nds) (N0 := N0) (ky0 := ky0) (lv := lv) (i := i) (x := nds[i])
    generalize kSx nds N0 ky0 lv i nds[i] = t at hle
    generalize hN : (kSv nds N0 ky0 lv i).1 = N at h1 h2 h3 hle
    refine ⟨?_, ?_, fun j hj => ?_⟩
    · show N0 ≤ (if t < N then N else N + 1)
      split <;> omega
    · show (if t < N then N else N + 1) ≤ N0 + (i + 1)
      split <;> omega
    · show (if j = i then t else (kSv nds N0 ky0 lv i).2.2 j) < (if t < N then N else N + 1)
      by_cases c : j = i
      · rw [if_pos c]
        split <;> omega
      · rw [if_neg c]
        have := h3 j (by omega)
        split <;> omega
end SP
