/-! ===== questions: the class begins a text ===== -/
/-- the class's heap as a text of n bytes is begun -/
def kb_h (h : ka_H) (n : Nat) : ka_H := ka_sI (ka_sI (ka_sI (ka_sI (ka_sI h 9 5 (nI n)) 9 1 0) 9 2 0) 9 3 0) 9 4 (-1)
section QB
variable {g : Nat × (Nat → Int32)} {d : Nat} {h : ka_H} {R : ka_R → ka_H → Prop} {n F : Nat}
theorem kc_begin (hf : kf g h) (hF : ka_I h 9 1 = nI F) (hn : n ≤ F) (hF200 : F ≤ 200) (e : R (.inl none) (kb_h h n)) : kp_T (d + 2) 48 [.ref 9, .int (nI n)] h R := by
  refine kq_in hf rfl rfl rfl (kq_seg kp_no 30 ?_)
  refine kq_ci (kc_min hf) hf ?_
  rw [hF, show (if nI F < nI n then nI F else nI n) = nI n from if_neg (nI_nlt hn (by omega))]
  refine kq_ci (kc_max hf) hf ?_
  rw [show (if Int32.ofInt 0 < nI n then nI n else Int32.ofInt 0) = nI n by
    by_cases c : Int32.ofInt 0 < nI n
    · rw [if_pos c]
    · rw [if_neg c]
      have : n = 0 := by
        rcases Nat.eq_zero_or_pos n with z | z
        · exact z
        · exact absurd (nI_lt (a := 0) z (by omega)) c
      rw [this]
      rfl]
  exact e
end QB
