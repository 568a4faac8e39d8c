/-! ===== shelves: the reference shelves a node ===== -/
/-- a shelf of the reference: its node, what makes it what it is -/
def kSm (h : ka_H) (s : Nat) (ky : kKey) : Prop := ∃ (q j : Nat) (y : kN) (f : Nat → Nat), q < 6 ∧ j < 12 ∧ ka_I h 92 s = nI (12 * q + j) ∧ kMn (ka_I h) (12 * q + j) y ∧ kNv y 12 ∧ (1 ≤ y.1 → ka_I h 84 (12 * q + y.2.2.1) = nI (f y.2.2.1)) ∧ (9 ≤ y.1 → y.1 ≤ 12 → ka_I h 84 (12 * q + y.2.2.2.1) = nI (f y.2.2.2.1)) ∧ (∀ k, f k < 72) ∧ ky = kKy y f
def kSh (h : ka_H) (a N : Nat) : ka_H := ka_sI (ka_sI (ka_sI (ka_sI (ka_sI h 84 a (nI N)) 92 N (nI a)) 93 N (ka_I h 72 35)) 94 N 1) 72 34 (nI (N + 1))
section S2
variable {g : Nat × (Nat → Int32)} {d : Nat} {h : ka_H} {R : ka_R → ka_H → Prop} {q i N : Nat} {x : kN} {f : Nat → Nat} {ky : Nat → kKey} {lv : Nat → Bool}
theorem kc_shelve (hf : kf g h) (hq : q < 6) (hi : i < 12) (hN : ka_I h 72 34 = nI N) (hN72 : N < 72) (hx : kMn (ka_I h) (12 * q + i) x) (vx : kNv x 12) (h1 : 1 ≤ x.1 → ka_I h 84 (12 * q + x.2.2.1) = nI (f x.2.2.1)) (h2 : 9 ≤ x.1 → x.1 ≤ 12 → ka_I h 84 (12 * q + x.2.2.2.1) = nI (f x.2.2.2.1)) (hb : ∀ k, f k < 72)
    (hS : ∀ s, s < N → kSm h s (ky s)) (hL : ∀ s, s < N → ka_I h 94 s = if lv s = true then 1 else 0)
    (e1 : ∀ s, s < N → lv s = true → ky s = kKy x f → (∀ s', s' < s → ¬ (lv s' = true ∧ ky s' = kKy x f)) → R (.inl none) (ka_sI h 84 (12 * q + i) (nI s)))
    (e2 : (∀ s', s' < N → ¬ (lv s' = true ∧ ky s' = kKy x f)) → R (.inl none) (kSh h (12 * q + i) N)) : kp_T (d + 3) 185 [.ref 72, .int (nI q), .int (nI i)] h R := by
  have hix : Int32.ofInt 12 * nI q + nI i = nI (12 * q + i) := by rw [nI_12m, nI_add]
  have main : ∀ m k, k + m = N → (∀ s', s' < k → ¬ (lv s' = true ∧ ky s' = kKy x f)) → kq_ex g (d + 2) 185 R 10 [.ref 72, .int (nI q), .int (nI i), .int (nI (12 * q + i)), .int (nI k)] [] h := by
    intro m
    induction m with
    | zero =>
      intro k hk hno
      have hkN : k = N := by omega
      refine kq_seg (fun p => Nat.beq p 10) 60 ⟨fun _ => ⟨nI_in (N := 72) (by omega) (by omega), ?_⟩, fun c => by rw [hN] at c; exact absurd c (nI_nlt (by omega) (by omega))⟩
      rw [nI_clamp (by omega), hN]
      have hr1 : ka_I (ka_sI h (kq_p h 72 16) (12 * q + i) (nI N)) 72 34 = nI N := hN
      refine ⟨by rw [hr1]; exact nI_in (N := 72) (by omega) (by omega), ?_⟩
      rw [hr1, nI_clamp (by omega)]
      have hr2 : ka_I (ka_sI (ka_sI h (kq_p h 72 16) (12 * q + i) (nI N)) (kq_p (ka_sI h (kq_p h 72 16) (12 * q + i) (nI N)) 72 36) N (nI (12 * q + i))) 72 34 = nI N := hN
      have key : vp_in (ka_I h 72 34) 72 := by rw [hN]; exact nI_in (N := 72) (by omega) (by omega)
      refine ⟨key, ?_⟩
      rw [hr2, nI_clamp (by omega)]
      have hr3 : ka_I (ka_sI (ka_sI (ka_sI h (kq_p h 72 16) (12 * q + i) (nI N)) (kq_p (ka_sI h (kq_p h 72 16) (12 * q + i) (nI N)) 72 36) N (nI (12 * q + i))) (kq_p (ka_sI (ka_sI h (kq_p h 72 16) (12 * q + i) (nI N)) (kq_p (ka_sI h (kq_p h 72 16) (12 * q + i) (nI N)) 72 36) N (nI (12 * q + i))) 72 37) N (ka_I (ka_sI (ka_sI h (kq_p h 72 16) (12 * q + i) (nI N)) (kq_p (ka_sI h (kq_p h 72 16) (12 * q + i) (nI N)) 72 36) N (nI (12 * q + i))) 72 35)) 72 34 = nI N := hN
      refine ⟨⟨key, Or.inr rfl⟩, ?_⟩
      rw [hr3, nI_clamp (by omega)]
      have hr4 : ka_I (ka_sI (ka_sI (ka_sI (ka_sI h (kq_p h 72 16) (12 * q + i) (nI N)) (kq_p (ka_sI h (kq_p h 72 16) (12 * q + i) (nI N)) 72 36) N (nI (12 * q + i))) (kq_p (ka_sI (ka_sI h (kq_p h 72 16) (12 * q + i) (nI N)) (kq_p (ka_sI h (kq_p h 72 16) (12 * q + i) (nI N)) 72 36) N (nI (12 * q + i))) 72 37) N (ka_I (ka_sI (ka_sI h (kq_p h 72 16) (12 * q + i) (nI N)) (kq_p (ka_sI h (kq_p h 72 16) (12 * q + i) (nI N)) 72 36) N (nI (12 * q + i))) 72 35)) (kq_p (ka_sI (ka_sI (ka_sI h (kq_p h 72 16) (12 * q + i) (nI N)) (kq_p (ka_sI h (kq_p h 72 16) (12 * q + i) (nI N)) 72 36) N (nI (12 * q + i))) (kq_p (ka_sI (ka_sI h (kq_p h 72 16) (12 * q + i) (nI N)) (kq_p (ka_sI h (kq_p h 72 16) (12 * q + i) (nI N)) 72 36) N (nI (12 * q + i))) 72 37) N (ka_I (ka_sI (ka_sI h (kq_p h 72 16) (12 * q + i) (nI N)) (kq_p (ka_sI h (kq_p h 72 16) (12 * q + i) (nI N)) 72 36) N (nI (12 * q + i))) 72 35)) 72 38) N 1) 72 34 + 1 = nI (N + 1) := by
        rw [show ka_I (ka_sI (ka_sI (ka_sI (ka_sI h (kq_p h 72 16) (12 * q + i) (nI N)) (kq_p (ka_sI h (kq_p h 72 16) (12 * q + i) (nI N)) 72 36) N (nI (12 * q + i))) (kq_p (ka_sI (ka_sI h (kq_p h 72 16) (12 * q + i) (nI N)) (kq_p (ka_sI h (kq_p h 72 16) (12 * q + i) (nI N)) 72 36) N (nI (12 * q + i))) 72 37) N (ka_I (ka_sI (ka_sI h (kq_p h 72 16) (12 * q + i) (nI N)) (kq_p (ka_sI h (kq_p h 72 16) (12 * q + i) (nI N)) 72 36) N (nI (12 * q + i))) 72 35)) (kq_p (ka_sI (ka_sI (ka_sI h (kq_p h 72 16) (12 * q + i) (nI N)) (kq_p (ka_sI h (kq_p h 72 16) (12 * q + i) (nI N)) 72 36) N (nI (12 * q + i))) (kq_p (ka_sI (ka_sI h (kq_p h 72 16) (12 * q + i) (nI N)) (kq_p (ka_sI h (kq_p h 72 16) (12 * q + i) (nI N)) 72 36) N (nI (12 * q + i))) 72 37) N (ka_I (ka_sI (ka_sI h (kq_p h 72 16) (12 * q + i) (nI N)) (kq_p (ka_sI h (kq_p h 72 16) (12 * q + i) (nI N)) 72 36) N (nI (12 * q + i))) 72 35)) 72 38) N 1) 72 34 = nI N from hN]
        exact (nI_succ N).symm
      have hfin := e2 (fun s' h' => hno s' (by omega))
      unfold kSh at hfin
      rw [← hr4] at hfin
      exact hfin
    | succ m ih =>
      intro k hk hno
      have hk72 : k < N := by omega
      refine kq_seg (fun p => Nat.beq p 10) 60 ⟨fun c => by rw [hN] at c; exact absurd (nI_lt hk72 (by omega)) c, fun _ => ⟨nI_in (N := 72) (by omega) (by omega), ?_⟩⟩
      rw [nI_clamp (by omega), show ka_I h (kq_p h 72 38) k = _ from hL k hk72]
      have nx : ¬ (lv k = true ∧ ky k = kKy x f) → kq_ex g (d + 2) 185 R 10 [.ref 72, .int (nI q), .int (nI i), .int (nI (12 * q + i)), .int (nI k + 1)] [] h := fun z => by
        have := ih (k + 1) (by omega) (fun s' h' => by
          rcases Nat.lt_or_ge s' k with y | y
          · exact hno s' y
          · rw [show s' = k by omega]; exact z)
        rw [nI_succ] at this
        exact this
      by_cases cl : lv k = true
      · rw [if_pos cl]
        refine ⟨fun c => absurd c (by decide), fun _ => ⟨nI_in (N := 72) (by omega) (by omega), ?_⟩⟩
        obtain ⟨q', j, y, f', a1, a2, a3, a4, a5, a6, a7, a8, a9⟩ := hS k hk72
        rw [nI_clamp (by omega), show ka_I h (kq_p h 72 36) k = _ from a3]
        refine kc_areAlike (f := f) (f' := f') hf hq hi a1 a2 hx a4 vx a5 h1 h2 a6 a7 hb a8 (fun z => ⟨hf, ⟨fun _ => ?_, fun c => absurd c (by decide)⟩⟩) (fun z => ⟨hf, ⟨fun c => absurd rfl c, fun _ => nx (fun y => z (y.2.symm.trans a9 |>.symm ▸ rfl))⟩⟩)
        refine ⟨nI_in (N := 72) (by omega) (by omega), ?_⟩
        rw [nI_clamp (by omega)]
        exact e1 k hk72 cl (a9.trans z.symm) hno
      · rw [if_neg cl]
        exact ⟨fun _ => nx (fun z => cl z.1), fun c => absurd rfl c⟩
  refine kq_in hf rfl rfl rfl (kq_seg (fun p => Nat.beq p 10) 20 ?_)
  have := main N 0 (Nat.zero_add _) (fun s' h' => absurd h' (Nat.not_lt_zero _))
  rw [← hix] at this
  exact this
end S2
