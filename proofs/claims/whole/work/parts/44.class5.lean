/-! ===== the class: rows ===== -/
section C5
variable {g : Nat × (Nat → Int32)} {d : Nat} {h : ka_H} {R : ka_R → ka_H → Prop}
def kl_ct (h : ka_H) (t cell : Int32) (k : Nat) : Int32 := if ka_I h 3 k = t ∧ ka_I h 4 k = cell then ka_I h 5 k else 0
theorem kc_total (hf : kf g h) {n c : Nat} (hn : ka_I h 2 6 = nI n) (hc : ka_I h 2 7 = nI c) (hlt : c ≤ 100) {t cell ed : Int32} {m : Nat} (hm : kl_end h n c ed = nI m) (hm4 : m ≤ 400) : kp_T (d + 2) 32 [.ref 2, .int t, .int cell, .int ed] h (kp_is (.int (kp_sum (kl_ct h t cell) m)) h) := by
  have head : ∀ j k, k + j = m → kq_ex g (d + 1) 32 (kp_is (.int (kp_sum (kl_ct h t cell) m)) h) 13 [.ref 2, .int t, .int cell, .int ed, .int (nI m), .int (kp_sum (kl_ct h t cell) k), .int (nI k)] [] h := by
    intro j
    induction j with
    | zero =>
      intro k hk
      refine kq_seg (fun p => Nat.beq p 13) 33 ?_
      refine And.intro (fun _ => ?_) (fun c => ?_)
      · rw [show k = m by omega]
        exact ⟨trivial, rfl, rfl⟩
      · exact absurd c (nI_nlt (by omega) (by omega))
    | succ j ih =>
      intro k hk
      refine kq_seg (fun p => Nat.beq p 13) 33 ?_
      have ih' := ih (k + 1) (by omega)
      rw [nI_succ] at ih'
      have hno : ¬ (ka_I h 3 k = t ∧ ka_I h 4 k = cell) → kp_sum (kl_ct h t cell) (k + 1) = kp_sum (kl_ct h t cell) k + 0 := fun z => by
        show _ + kl_ct h t cell k = _
        rw [show kl_ct h t cell k = 0 from if_neg z]
      refine And.intro (fun c => ?_) (fun _ => ?_)
      · exact absurd (nI_lt (by omega) (by omega)) c
      · refine And.intro (nI_in (N := 400) (by omega) (by omega)) ?_
        rw [nI_clamp (by omega)]
        refine And.intro (fun c => ?_) (fun c => ?_)
        · rw [hno (fun z => c z.1)] at ih'
          exact ih'
        · refine And.intro (nI_in (N := 400) (by omega) (by omega)) ?_
          rw [nI_clamp (by omega)]
          refine And.intro (fun c2 => ?_) (fun c2 => ?_)
          · rw [hno (fun z => c2 z.2)] at ih'
            exact ih'
          · refine And.intro (nI_in (N := 400) (by omega) (by omega)) ?_
            rw [nI_clamp (by omega)]
            rw [show kp_sum (kl_ct h t cell) (k + 1) = kp_sum (kl_ct h t cell) k + ka_I h 5 k by show _ + kl_ct h t cell k = _; rw [show kl_ct h t cell k = ka_I h 5 k from if_pos ⟨c, c2⟩]] at ih'
            exact ih'
  refine kq_in hf rfl rfl rfl (kq_seg (fun p => Nat.beq p 13) 10 ?_)
  refine kq_ci (kc_endOf hf hn hc hlt) hf ?_
  rw [hm]
  exact head m 0 (by omega)
theorem kc_xrows (hf : kf g h) (hb : h.1 < 1000000) {n c : Nat} (hn : ka_I h 2 6 = nI n) (hc : ka_I h 2 7 = nI c) (hlt : c ≤ 100) {t a b ed : Int32} {m : Nat} (hm : kl_end h n c ed = nI m) (hm4 : m ≤ 400) (e1 : ¬ kp_tab t → R (.inr (1, h.1)) (kx h 1)) (e2 : kp_tab t → ¬ (kp_row a b ∧ (0 ≤ ed ∧ ed ≤ ka_I h 2 7)) → R (.inr (0, h.1)) (kx h 0))
    (e3 : kp_tab t → kp_row a b → (0 ≤ ed ∧ ed ≤ ka_I h 2 7) → R (kp_ri (kp_sum (kl_ct h t (16 * a + b)) m)) h) : kp_T (d + 3) 85 [.ref 1, .int t, .int a, .int b, .int ed] h R := by
  refine kq_in hf rfl rfl rfl (kq_seg kp_no 26 ?_)
  refine kc_reqTable hf hb (fun c => ⟨kf_new hf hb, e1 c⟩) (fun c => ⟨hf, ?_⟩)
  refine kc_cellOf hf hb (fun c2 => ⟨kf_new hf hb, e2 c (fun q => c2 q.1)⟩) (fun c2 => ⟨hf, ?_⟩)
  refine And.intro (fun c3 => ?_) (fun c3 => ?_)
  · exact ⟨hb, e2 c (fun q => absurd c3 (Int32.not_lt.mpr q.2.1))⟩
  · refine And.intro (fun c4 => ?_) (fun c4 => ?_)
    · refine kq_ci (kc_total hf hn hc hlt hm hm4) hf ?_
      exact ⟨trivial, e3 c c2 ⟨Int32.not_lt.mp c3, Int32.not_lt.mp c4⟩⟩
    · exact ⟨hb, e2 c (fun q => absurd c4 (Int32.not_lt.mpr q.2.2))⟩
end C5
