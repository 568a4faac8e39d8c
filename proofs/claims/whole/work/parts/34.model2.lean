/-! ===== the reference: tables and editions ===== -/
def kp_sum (f : Nat → Int32) : Nat → Int32
  | 0 => 0
  | n + 1 => kp_sum f n + f n
section M2
variable {g : Nat × (Nat → Int32)} {d : Nat} {h : ka_H}
def km_open (h : ka_H) (k : Nat) : Int32 := kp_b (ka_I h 76 k = ka_I h 72 1)
theorem kc_openMany (hf : kf g h) {n : Nat} (hn : ka_I h 72 2 = nI n) (hlt : n ≤ 400) : kp_T (d + 1) 156 [.ref 72] h (kp_is (.int (kp_sum (km_open h) n)) h) := by
  have head : ∀ j k, k + j = n → kq_ex g d 156 (kp_is (.int (kp_sum (km_open h) n)) h) 4 [.ref 72, .int (kp_sum (km_open h) k), .int (nI k)] [] h := by
    intro j
    induction j with
    | zero =>
      intro k hk
      refine kq_seg (fun p => Nat.beq p 4) 25 ?_
      refine And.intro (fun _ => ?_) (fun c => ?_)
      · rw [show k = n by omega]
        exact ⟨trivial, rfl, rfl⟩
      · rw [hn] at c
        exact absurd c (nI_nlt (by omega) (by omega))
    | succ j ih =>
      intro k hk
      refine kq_seg (fun p => Nat.beq p 4) 25 ?_
      refine And.intro (fun c => ?_) (fun _ => ?_)
      · rw [hn] at c
        exact absurd (nI_lt (by omega) (by omega)) c
      · refine And.intro (nI_in (N := 400) (by omega) (by omega)) ?_
        rw [nI_clamp (by omega)]
        have ih' := ih (k + 1) (by omega)
        refine And.intro (fun c => ?_) (fun c => ?_)
        · rw [show kp_sum (km_open h) (k + 1) = kp_sum (km_open h) k + 0 by show _ + km_open h k = _; rw [show km_open h k = 0 from kp_bF c]] at ih'
          rw [nI_succ] at ih'
          exact ih'
        · rw [show kp_sum (km_open h) (k + 1) = kp_sum (km_open h) k + 1 by show _ + km_open h k = _; rw [show km_open h k = 1 from kp_bT c]] at ih'
          rw [nI_succ] at ih'
          exact ih'
  refine kq_in hf rfl rfl rfl (kq_seg (fun p => Nat.beq p 4) 4 ?_)
  exact head n 0 (by omega)
def km_ct (h : ka_H) (t row e : Int32) (k : Nat) : Int32 := if ka_I h 73 k = t ∧ ka_I h 74 k = row ∧ ka_I h 76 k ≤ e then ka_I h 75 k else 0
theorem kc_countOf (hf : kf g h) {n : Nat} (hn : ka_I h 72 2 = nI n) (hlt : n ≤ 400) {t row e : Int32} : kp_T (d + 1) 159 [.ref 72, .int t, .int row, .int e] h (kp_is (.int (kp_sum (km_ct h t row e) n)) h) := by
  have head : ∀ j k, k + j = n → kq_ex g d 159 (kp_is (.int (kp_sum (km_ct h t row e) n)) h) 6 [.ref 72, .int t, .int row, .int e, .int (kp_sum (km_ct h t row e) k), .int (nI k)] [] h := by
    intro j
    induction j with
    | zero =>
      intro k hk
      refine kq_seg (fun p => Nat.beq p 6) 33 ?_
      refine And.intro (fun _ => ?_) (fun c => ?_)
      · rw [show k = n by omega]
        exact ⟨trivial, rfl, rfl⟩
      · rw [hn] at c
        exact absurd c (nI_nlt (by omega) (by omega))
    | succ j ih =>
      intro k hk
      refine kq_seg (fun p => Nat.beq p 6) 33 ?_
      have ih' := ih (k + 1) (by omega)
      rw [nI_succ] at ih'
      have hno : ¬ (ka_I h 73 k = t ∧ ka_I h 74 k = row ∧ ka_I h 76 k ≤ e) → kp_sum (km_ct h t row e) (k + 1) = kp_sum (km_ct h t row e) k + 0 := fun z => by
        show _ + km_ct h t row e k = _
        rw [show km_ct h t row e k = 0 from if_neg z]
      refine And.intro (fun c => ?_) (fun _ => ?_)
      · rw [hn] at c
        exact absurd (nI_lt (by omega) (by omega)) c
      · refine And.intro (nI_in (N := 400) (by omega) (by omega)) ?_
        rw [nI_clamp (by omega)]
        refine And.intro (fun c => ?_) (fun c => ?_)
        · rw [hno (fun z => c z.1)] at ih'
          exact ih'
        · refine And.intro (nI_in (N := 400) (by omega) (by omega)) ?_
          rw [nI_clamp (by omega)]
          refine And.intro (fun c2 => ?_) (fun c2 => ?_)
          · rw [hno (fun z => c2 z.2.1)] at ih'
            exact ih'
          · refine And.intro (nI_in (N := 400) (by omega) (by omega)) ?_
            rw [nI_clamp (by omega)]
            refine And.intro (fun c3 => ?_) (fun c3 => ?_)
            · rw [hno (fun z => absurd c3 (Int32.not_lt.mpr z.2.2))] at ih'
              exact ih'
            · refine And.intro (nI_in (N := 400) (by omega) (by omega)) ?_
              rw [nI_clamp (by omega)]
              rw [show kp_sum (km_ct h t row e) (k + 1) = kp_sum (km_ct h t row e) k + ka_I h 75 k by show _ + km_ct h t row e k = _; rw [show km_ct h t row e k = ka_I h 75 k from if_pos ⟨c, c2, Int32.not_lt.mp c3⟩]] at ih'
              exact ih'
  refine kq_in hf rfl rfl rfl (kq_seg (fun p => Nat.beq p 6) 4 ?_)
  exact head n 0 (by omega)
end M2
