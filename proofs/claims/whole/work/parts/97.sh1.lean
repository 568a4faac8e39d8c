/-! ===== shelves: the reference compares nodes ===== -/
/-- what makes nodes alike: their operator, table, operands' shelves (one more; 0: none), signs -/
abbrev kKey : Type := Nat × Nat × Nat × Nat × List Nat
def kKy (x : kN) (f : Nat → Nat) : kKey := (x.1, (if x.1 = 0 then x.2.1 else 0), (if x.1 = 0 then 0 else f x.2.2.1 + 1), (if 9 ≤ x.1 ∧ x.1 ≤ 12 then f x.2.2.2.1 + 1 else 0), x.2.2.2.2.2.1)
def tI (v : Int32) : Nat := if v = 20 then 16 else if v = 21 then 17 else if v = 105 then 18 else if v = 104 then 19 else if v = 103 then 20 else if v = 100 then 60 else if v = 101 then 62 else if v = 102 then 61 else if v = 106 then 91 else if v = 107 then 93 else v.toInt.toNat
theorem tI_tM {c : Nat} (hc : kt_vc c) : tI (tM c) = c := by
  rcases hc with z | z | z | z | z | z
  · exact (by decide : ∀ c, c < 21 → tI (tM c) = c) c (by omega)
  · subst z; decide
  · subst z; decide
  · subst z; decide
  · subst z; decide
  · subst z; decide
theorem tM_inj {c e : Nat} (hc : kt_vc c) (he : kt_vc e) (h : tM c = tM e) : c = e := by rw [← tI_tM hc, ← tI_tM he, h]
/-- a list's signs as they stand in an array -/
theorem tM_lst {l1 l2 : List Nat} (h1 : ∀ c, c ∈ l1 → kt_vc c) (h2 : ∀ c, c ∈ l2 → kt_vc c) (hl : l1.length = l2.length) (h : ∀ k, k < l1.length → tM (l1.getD k 0) = tM (l2.getD k 0)) : l1 = l2 := by
  refine List.ext_getElem hl (fun k k1 k2 => ?_)
  have := h k k1
  rw [List.getD_eq_getElem?_getD, List.getD_eq_getElem?_getD, List.getElem?_eq_getElem k1, List.getElem?_eq_getElem k2] at this
  exact tM_inj (h1 _ (List.getElem_mem k1)) (h2 _ (List.getElem_mem k2)) this
theorem nI_s1 {a b : Nat} (ha : a < 2 ^ 31) (hb : b < 2 ^ 31) : nI a - 1 = nI b - 1 → a = b := fun e => by
  have : nI a = nI b := by
    have := congrArg (fun z => z + 1) e
    simpa [Int32.sub_add_cancel] using this
  exact (nI_eq ha hb).mp this
section S1
variable {g : Nat × (Nat → Int32)} {d : Nat} {h : ka_H} {R : ka_R → ka_H → Prop} {q q' i j : Nat} {x y : kN} {f f' : Nat → Nat}
theorem kc_operandShelf {c : Prop} [Decidable c] {k : Nat} (hf : kf g h) (hq : q < 6) (hi : i < 12) (hk : ¬ c → k < 12) : kp_T (d + 1) 186 [.ref 72, .int (nI (12 * q + i)), .int (if c then -1 else nI k)] h (kp_is (.int (if c then -1 else ka_I h 84 (12 * q + k))) h) := by
  by_cases hc : c
  · rw [if_pos hc, if_pos hc]
    exact kq_in hf rfl rfl rfl (kq_seg kp_no 20 ⟨fun z => absurd rfl z, fun _ => ⟨trivial, rfl, rfl⟩⟩)
  · rw [if_neg hc, if_neg hc]
    have hk' := hk hc
    have e1 : Int32.ofInt 12 * (nI (12 * q + i) / Int32.ofInt 12) + nI k = nI (12 * q + k) := by
      rw [show nI (12 * q + i) / Int32.ofInt 12 = nI ((12 * q + i) / 12) from nI_div (b := 12) (by omega) (by omega), nI_12m, nI_add]
      congr 1
      omega
    refine kq_in hf rfl rfl rfl (kq_seg kp_no 20 ⟨fun _ => ?_, fun z => absurd z (nI_ne_m1 (by omega))⟩)
    refine ⟨by decide, ⟨?_, ?_⟩⟩
    · rw [e1]; exact nI_in (N := 72) (by omega) (by omega)
    · rw [e1, nI_clamp (by omega)]
      exact ⟨trivial, rfl, rfl⟩
/-- a node of a question as it is known -/
def kNv (x : kN) (m : Nat) : Prop := x.1 ≤ 13 ∧ (x.1 = 0 → x.2.1 < 4) ∧ (1 ≤ x.1 → x.2.2.1 < m) ∧ (9 ≤ x.1 → x.1 ≤ 12 → x.2.2.2.1 < m) ∧ (∀ c, c ∈ x.2.2.2.2.2.1 → kt_vc c) ∧ x.2.2.2.2.2.1.length ≤ 200
theorem kc_areAlike (hf : kf g h) (hq : q < 6) (hi : i < 12) (hq' : q' < 6) (hj : j < 12) (hx : kMn (ka_I h) (12 * q + i) x) (hy : kMn (ka_I h) (12 * q' + j) y) (vx : kNv x 12) (vy : kNv y 12) (h1 : 1 ≤ x.1 → ka_I h 84 (12 * q + x.2.2.1) = nI (f x.2.2.1)) (h2 : 9 ≤ x.1 → x.1 ≤ 12 → ka_I h 84 (12 * q + x.2.2.2.1) = nI (f x.2.2.2.1)) (h1' : 1 ≤ y.1 → ka_I h 84 (12 * q' + y.2.2.1) = nI (f' y.2.2.1)) (h2' : 9 ≤ y.1 → y.1 ≤ 12 → ka_I h 84 (12 * q' + y.2.2.2.1) = nI (f' y.2.2.2.1)) (hb : ∀ k, f k < 72) (hb' : ∀ k, f' k < 72)
    (e1 : kKy x f = kKy y f' → R (kp_ri 1) h) (e0 : kKy x f ≠ kKy y f' → R (kp_ri 0) h) : kp_T (d + 2) 187 [.ref 72, .int (nI (12 * q + i)), .int (nI (12 * q' + j))] h R := by
  obtain ⟨x0, x1, x2, x3, x4, -, x6, -⟩ := hx
  obtain ⟨y0, y1, y2, y3, y4, -, y6, -⟩ := hy
  obtain ⟨vx1, vx2, vx3, vx4, vx5, vx6⟩ := vx
  obtain ⟨vy1, vy2, vy3, vy4, vy5, vy6⟩ := vy
  have j80 : kKy x f ≠ kKy y f' → ∀ z, kq_ex g (d + 1) 187 R 80 [.ref 72, .int (nI (12 * q + i)), .int (nI (12 * q' + j)), z] [] h := fun c z => kq_seg kp_no 10 ⟨Or.inl rfl, e0 c⟩
  refine kq_in hf rfl rfl rfl (kq_seg (fun p => Nat.beq p 80 || Nat.beq p 82) 60 ⟨nI_in (N := 72) (by omega) (by omega), ⟨nI_in (N := 72) (by omega) (by omega), ?_⟩⟩)
  rw [nI_clamp (by omega), nI_clamp (by omega), show ka_I h (kq_p h 72 12) (12 * q + i) = nI x.1 from x0, show ka_I h (kq_p h 72 12) (12 * q' + j) = nI y.1 from y0]
  refine ⟨fun c => j80 (fun z => c (by rw [(Prod.mk.inj z).1])) _, fun c => ?_⟩
  have exy : x.1 = y.1 := (nI_eq (by omega) (by omega)).mp c
  refine ⟨nI_in (N := 72) (by omega) (by omega), ⟨nI_in (N := 72) (by omega) (by omega), ?_⟩⟩
  have tx : ka_I h (kq_p h 72 13) (12 * q + i) = nI (kKy x f).2.1 := x1.trans (by unfold kKy; by_cases z : x.1 = 0; simp only [if_pos z]; simp only [if_neg z]; rfl)
  have ty : ka_I h (kq_p h 72 13) (12 * q' + j) = nI (kKy y f').2.1 := y1.trans (by unfold kKy; by_cases z : y.1 = 0; simp only [if_pos z]; simp only [if_neg z]; rfl)
  have bx : (kKy x f).2.1 < 4 ∧ (kKy x f).2.2.1 < 73 ∧ (kKy x f).2.2.2.1 < 73 := by
    have a1 := hb x.2.2.1
    have a2 := hb x.2.2.2.1
    refine ⟨?_, ?_, ?_⟩
    · show (if x.1 = 0 then x.2.1 else 0) < 4
      split
      · exact vx2 ‹_›
      · omega
    · show (if x.1 = 0 then 0 else f x.2.2.1 + 1) < 73
      split <;> omega
    · show (if 9 ≤ x.1 ∧ x.1 ≤ 12 then f x.2.2.2.1 + 1 else 0) < 73
      split <;> omega
  have by' : (kKy y f').2.1 < 4 ∧ (kKy y f').2.2.1 < 73 ∧ (kKy y f').2.2.2.1 < 73 := by
    have a1 := hb' y.2.2.1
    have a2 := hb' y.2.2.2.1
    refine ⟨?_, ?_, ?_⟩
    · show (if y.1 = 0 then y.2.1 else 0) < 4
      split
      · exact vy2 ‹_›
      · omega
    · show (if y.1 = 0 then 0 else f' y.2.2.1 + 1) < 73
      split <;> omega
    · show (if 9 ≤ y.1 ∧ y.1 ≤ 12 then f' y.2.2.2.1 + 1 else 0) < 73
      split <;> omega
  have m1 : ∀ k : Nat, nI (k + 1) - 1 = nI k := fun k => nI_sub (b := 1) (a := k + 1) (by omega)
  have sx1 : (if x.1 = 0 then -1 else ka_I h 84 (12 * q + x.2.2.1)) = nI (kKy x f).2.2.1 - 1 := by
    show _ = nI (if x.1 = 0 then 0 else f x.2.2.1 + 1) - 1
    by_cases z : x.1 = 0
    · rw [if_pos z, if_pos z]; rfl
    · rw [if_neg z, if_neg z, h1 (by omega), m1]
  have sy1 : (if y.1 = 0 then -1 else ka_I h 84 (12 * q' + y.2.2.1)) = nI (kKy y f').2.2.1 - 1 := by
    show _ = nI (if y.1 = 0 then 0 else f' y.2.2.1 + 1) - 1
    by_cases z : y.1 = 0
    · rw [if_pos z, if_pos z]; rfl
    · rw [if_neg z, if_neg z, h1' (by omega), m1]
  have sx2 : (if ¬ (9 ≤ x.1 ∧ x.1 ≤ 12) then -1 else ka_I h 84 (12 * q + x.2.2.2.1)) = nI (kKy x f).2.2.2.1 - 1 := by
    show _ = nI (if 9 ≤ x.1 ∧ x.1 ≤ 12 then f x.2.2.2.1 + 1 else 0) - 1
    by_cases z : 9 ≤ x.1 ∧ x.1 ≤ 12
    · rw [if_neg (fun y => y z), if_pos z, h2 z.1 z.2, m1]
    · rw [if_pos z, if_neg z]; rfl
  have sy2 : (if ¬ (9 ≤ y.1 ∧ y.1 ≤ 12) then -1 else ka_I h 84 (12 * q' + y.2.2.2.1)) = nI (kKy y f').2.2.2.1 - 1 := by
    show _ = nI (if 9 ≤ y.1 ∧ y.1 ≤ 12 then f' y.2.2.2.1 + 1 else 0) - 1
    by_cases z : 9 ≤ y.1 ∧ y.1 ≤ 12
    · rw [if_neg (fun y => y z), if_pos z, h2' z.1 z.2, m1]
    · rw [if_pos z, if_neg z]; rfl
  have ax2 : (if 9 ≤ x.1 ∧ x.1 ≤ 12 then nI x.2.2.2.1 else -1) = (if ¬ (9 ≤ x.1 ∧ x.1 ≤ 12) then -1 else nI x.2.2.2.1) := by
    by_cases z : 9 ≤ x.1 ∧ x.1 ≤ 12
    · rw [if_pos z, if_neg (fun y => y z)]
    · rw [if_neg z, if_pos z]
  have ay2 : (if 9 ≤ y.1 ∧ y.1 ≤ 12 then nI y.2.2.2.1 else -1) = (if ¬ (9 ≤ y.1 ∧ y.1 ≤ 12) then -1 else nI y.2.2.2.1) := by
    by_cases z : 9 ≤ y.1 ∧ y.1 ≤ 12
    · rw [if_pos z, if_neg (fun y => y z)]
    · rw [if_neg z, if_pos z]
  rw [nI_clamp (by omega), nI_clamp (by omega), tx, ty]
  refine ⟨fun c => j80 (fun z => c (by rw [z])) _, fun c => ?_⟩
  have k1 : (kKy x f).2.1 = (kKy y f').2.1 := (nI_eq (by omega) (by omega)).mp c
  refine ⟨nI_in (N := 72) (by omega) (by omega), ?_⟩
  rw [nI_clamp (by omega), show ka_I h (kq_p h 72 14) (12 * q + i) = _ from x2]
  refine kq_ci (kc_operandShelf (k := x.2.2.1) hf hq hi (fun z => vx3 (by omega))) hf ⟨nI_in (N := 72) (by omega) (by omega), ?_⟩
  rw [nI_clamp (by omega), show ka_I h (kq_p h 72 14) (12 * q' + j) = _ from y2]
  refine kq_ci (kc_operandShelf (k := y.2.2.1) hf hq' hj (fun z => vy3 (by omega))) hf ?_
  rw [sx1, sy1]
  refine ⟨fun c => j80 (fun z => c (by rw [z])) _, fun c => ?_⟩
  have k2 : (kKy x f).2.2.1 = (kKy y f').2.2.1 := nI_s1 (by omega) (by omega) c
  refine ⟨nI_in (N := 72) (by omega) (by omega), ?_⟩
  rw [nI_clamp (by omega), show ka_I h (kq_p h 72 15) (12 * q + i) = _ from x3.trans ax2]
  refine kq_ci (kc_operandShelf (k := x.2.2.2.1) hf hq hi (fun z => by have z' := Classical.not_not.mp z; exact vx4 z'.1 z'.2)) hf ⟨nI_in (N := 72) (by omega) (by omega), ?_⟩
  rw [nI_clamp (by omega), show ka_I h (kq_p h 72 15) (12 * q' + j) = _ from y3.trans ay2]
  refine kq_ci (kc_operandShelf (k := y.2.2.2.1) hf hq' hj (fun z => by have z' := Classical.not_not.mp z; exact vy4 z'.1 z'.2)) hf ?_
  rw [sx2, sy2]
  refine ⟨fun c => ?_, fun c => j80 (fun z => c (by rw [z])) _⟩
  have k3 : (kKy x f).2.2.2.1 = (kKy y f').2.2.2.1 := nI_s1 (by omega) (by omega) c
  have hkey : x.2.2.2.2.2.1 = y.2.2.2.2.2.1 → kKy x f = kKy y f' := fun z => Prod.ext exy (Prod.ext k1 (Prod.ext k2 (Prod.ext k3 z)))
  refine (kq_seg (fun p => Nat.beq p 101) 40 ⟨nI_in (N := 72) (by omega) (by omega), ⟨nI_in (N := 72) (by omega) (by omega), ?_⟩⟩ : kq_ex g (d + 1) 187 R 82 [.ref 72, .int (nI (12 * q + i)), .int (nI (12 * q' + j)), .retAddr 0] [] h)
  rw [nI_clamp (by omega), nI_clamp (by omega), show ka_I h (kq_p h 72 18) (12 * q + i) = _ from x4, show ka_I h (kq_p h 72 18) (12 * q' + j) = _ from y4]
  refine ⟨fun c => ?_, fun c => ⟨Or.inl rfl, e0 (fun z => c (by rw [show x.2.2.2.2.2.1 = y.2.2.2.2.2.1 from congrArg (fun t : kKey => t.2.2.2.2) z]))⟩⟩
  have hl : x.2.2.2.2.2.1.length = y.2.2.2.2.2.1.length := (nI_eq (by omega) (by omega)).mp c
  have main : ∀ m k, k + m = x.2.2.2.2.2.1.length → (∀ k', k' < k → tM (x.2.2.2.2.2.1.getD k' 0) = tM (y.2.2.2.2.2.1.getD k' 0)) → kq_ex g (d + 1) 187 R 101 [.ref 72, .int (nI (12 * q + i)), .int (nI (12 * q' + j)), .int (nI k)] [] h := by
    intro m
    induction m with
    | zero =>
      intro k hk hd
      refine kq_seg (fun p => Nat.beq p 101) 40 ⟨nI_in (N := 72) (by omega) (by omega), ?_⟩
      rw [nI_clamp (by omega), show ka_I h (kq_p h 72 18) (12 * q + i) = _ from x4]
      exact ⟨fun _ => ⟨Or.inr rfl, e1 (hkey (tM_lst vx5 vy5 hl (fun k' h' => hd k' (by omega))))⟩, fun c => absurd c (nI_nlt (by omega) (by omega))⟩
    | succ m ih =>
      intro k hk hd
      refine kq_seg (fun p => Nat.beq p 101) 40 ⟨nI_in (N := 72) (by omega) (by omega), ?_⟩
      rw [nI_clamp (by omega), show ka_I h (kq_p h 72 18) (12 * q + i) = _ from x4]
      refine ⟨fun c => absurd (nI_lt (by omega) (by omega)) c, fun _ => ?_⟩
      have ix : Int32.ofInt 200 * nI (12 * q + i) + nI k = nI (200 * (12 * q + i) + k) := by rw [nI_200m, nI_add]
      have iy : Int32.ofInt 200 * nI (12 * q' + j) + nI k = nI (200 * (12 * q' + j) + k) := by rw [nI_200m, nI_add]
      refine ⟨by rw [ix]; exact nI_in (N := 14400) (by omega) (by omega), ⟨by rw [iy]; exact nI_in (N := 14400) (by omega) (by omega), ?_⟩⟩
      rw [ix, iy, nI_clamp (by omega), nI_clamp (by omega), show ka_I h (kq_p h 72 17) (200 * (12 * q + i) + k) = _ from x6 k (by omega), show ka_I h (kq_p h 72 17) (200 * (12 * q' + j) + k) = _ from y6 k (by omega)]
      refine ⟨fun c => ?_, fun c => ⟨Or.inl rfl, e0 (fun z => c (by rw [show x.2.2.2.2.2.1 = y.2.2.2.2.2.1 from congrArg (fun t : kKey => t.2.2.2.2) z]))⟩⟩
      have := ih (k + 1) (by omega) (fun k' h' => by
        rcases Nat.lt_or_ge k' k with z | z
        · exact hd k' z
        · rw [show k' = k by omega]; exact c)
      rw [nI_succ] at this
      exact this
  exact main x.2.2.2.2.2.1.length 0 (Nat.zero_add _) (fun k' h' => absurd h' (Nat.not_lt_zero _))
end S1
