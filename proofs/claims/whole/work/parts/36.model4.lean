/-! ===== the reference: late, room, drop, close, rows ===== -/
section M4
variable {g : Nat × (Nat → Int32)} {d : Nat} {h : ka_H} {R : ka_R → ka_H → Prop}
theorem kf_ad (hf : kf g h) {n : Nat} {t a b more late : Int32} : kf g (kp_ad h n t a b more late) := kf_w (kf_w (kf_w (kf_w (kf_w (kf_w hf 73 rfl rfl) 74 rfl rfl) 75 rfl rfl) 76 rfl rfl) 77 rfl rfl) 72 rfl rfl
theorem nI_inj {a b : Nat} (ha : a < 2 ^ 31) (hb : b < 2 ^ 31) (e : nI a = nI b) : a = b := by
  have := congrArg Int32.toInt e
  rw [nI_toInt ha, nI_toInt hb] at this
  omega
theorem kc_late (hf : kf g h) {n : Nat} (hn : ka_I h 72 2 = nI n) (hlt : n ≤ 400) {t a b more ed : Int32}
    (e1 : ¬ kp_tab t → R (kp_ri 0) (km_t h 1)) (e2 : kp_tab t → ¬ ((kp_row a b ∧ kp_more more) ∧ (0 ≤ ed ∧ ed ≤ ka_I h 72 1 - 1)) → R (kp_ri 0) (km_t h 2))
    (e3 : kp_tab t → kp_row a b ∧ kp_more more → (0 ≤ ed ∧ ed ≤ ka_I h 72 1 - 1) → ka_I h 72 3 < ka_I h 72 1 - ed → R (kp_ri 0) (km_0 h))
    (e4 : kp_tab t → kp_row a b ∧ kp_more more → (0 ≤ ed ∧ ed ≤ ka_I h 72 1 - 1) → ¬ ka_I h 72 3 < ka_I h 72 1 - ed → n = 400 → R (kp_ri (-1)) (km_0 h))
    (e5 : kp_tab t → kp_row a b ∧ kp_more more → (0 ≤ ed ∧ ed ≤ ka_I h 72 1 - 1) → ¬ ka_I h 72 3 < ka_I h 72 1 - ed → n < 400 → R (kp_ri 1) (kp_ad (km_0 h) n t a b more 1)) :
    kp_T (d + 3) 154 [.ref 72, .int t, .int a, .int b, .int more, .int ed] h R := by
  have hf0 : kf g (km_0 h) := kf_m hf
  have j50 : kp_tab t → ¬ ((kp_row a b ∧ kp_more more) ∧ (0 ≤ ed ∧ ed ≤ ka_I h 72 1 - 1)) → kq_ex g (d + 2) 154 R 50 [.ref 72, .int t, .int a, .int b, .int more, .int ed] [.ref 72] (km_0 h) := by
    intro ht hb
    refine kq_seg kp_no 10 ?_
    refine kq_ci (kc_may0 (code := 2) hf0 rfl (by decide)) (kf_m hf0) ?_
    refine And.intro (fun c => absurd rfl c) (fun _ => ?_)
    exact ⟨trivial, e2 ht hb⟩
  refine kq_in hf rfl rfl rfl (kq_seg (fun p => Nat.beq p 50) 60 ?_)
  refine kq_ci (kc_isTable (code := 1) hf0 rfl (by decide)) (kf_mh hf0) ?_
  refine And.intro (fun c => ?_) (fun c => ?_)
  · have ht : ¬ kp_tab t := kp_b0 c
    rw [show kp_mh (0 ≤ t ∧ t ≤ 3) 1 (km_0 h) = km_t h 1 from if_neg ht]
    exact ⟨trivial, e1 ht⟩
  · have ht : kp_tab t := kp_b1 c
    rw [show kp_mh (0 ≤ t ∧ t ≤ 3) 1 (km_0 h) = km_0 h from if_pos ht]
    refine kq_ci (kc_isRow hf0) hf0 ?_
    refine And.intro (fun c2 => j50 ht (fun q => kp_b0 c2 q.1.1)) (fun c2 => ?_)
    refine kq_ci (kc_isMore hf0) hf0 ?_
    refine And.intro (fun c3 => j50 ht (fun q => kp_b0 c3 q.1.2)) (fun c3 => ?_)
    refine kq_ci (kc_within (lo := 0) (hi := ka_I h 72 1 - 1)) hf0 ?_
    refine And.intro (fun c4 => j50 ht (fun q => kp_b0 c4 q.2)) (fun c4 => ?_)
    have hb : kp_row a b ∧ kp_more more := ⟨kp_b1 c2, kp_b1 c3⟩
    have he := kp_b1 c4
    refine kq_ci (kc_may1 (code := 2) hf0 rfl) hf0 ?_
    refine And.intro (fun _ => ?_) (fun c => absurd c (by decide))
    refine And.intro (fun c5 => ?_) (fun c5 => ⟨trivial, e3 ht hb he c5⟩)
    refine And.intro (fun c6 => ?_) (fun c6 => ?_)
    · have hne : n < 400 := by
        rcases Nat.lt_or_ge n 400 with q | q
        · exact q
        · exfalso
          refine c6 ?_
          show ka_I h 72 2 = _
          rw [hn, show n = 400 by omega]
          rfl
      refine kq_cv (kc_adds (n := n) hf0 hn hne (Or.inr rfl)) (kf_ad hf0) ?_
      exact ⟨trivial, e5 ht hb he c5 hne⟩
    · exact ⟨trivial, e4 ht hb he c5 (nI_inj (by omega) (by omega) (hn.symm.trans c6))⟩
theorem kc_room (hf : kf g h) {v : Int32} (e1 : ¬ (0 ≤ v ∧ v ≤ 10) → R (kp_ri 0) (km_t h 1)) (e2 : 0 ≤ v ∧ v ≤ 10 → R (kp_ri (ka_I h 72 3)) (ka_sI (km_0 h) 72 3 v)) : kp_T (d + 2) 155 [.ref 72, .int v] h R := by
  have hf0 : kf g (km_0 h) := kf_m hf
  refine kq_in hf rfl rfl rfl (kq_seg kp_no 25 ?_)
  refine kq_ci (kc_within (lo := 0) (hi := 10)) hf0 ?_
  refine kq_ci (kc_may (code := 1) hf0 rfl (by decide)) (kf_mh hf0) ?_
  refine And.intro (fun c => ?_) (fun c => ?_)
  · have hv := kp_b1 c
    rw [show kp_mh (0 ≤ v ∧ v ≤ 10) 1 (km_0 h) = km_0 h from if_pos hv]
    exact ⟨trivial, e2 hv⟩
  · have hv := kp_b0 c
    rw [show kp_mh (0 ≤ v ∧ v ≤ 10) 1 (km_0 h) = km_t h 1 from if_neg hv]
    exact ⟨trivial, e1 hv⟩
theorem kc_drop (hf : kf g h) {n : Nat} (hn : ka_I h 72 2 = nI n) (hlt : n ≤ 400) (e1 : R (kp_ri (kp_sum (km_open h) n)) (ka_sI (km_0 h) 72 2 (nI n - kp_sum (km_open h) n))) : kp_T (d + 2) 157 [.ref 72] h R := by
  have hf0 : kf g (km_0 h) := kf_m hf
  refine kq_in hf rfl rfl rfl (kq_seg kp_no 20 ?_)
  refine kq_ci (kc_openMany (h := km_0 h) hf0 hn hlt) hf0 ?_
  rw [← hn] at e1
  exact ⟨trivial, e1⟩
theorem kc_close (hf : kf g h) (e1 : ¬ ka_I h 72 1 < 100 → R (kp_ri 0) (km_t h 1)) (e2 : ka_I h 72 1 < 100 → R (kp_ri (ka_I h 72 1 + 1)) (ka_sI (km_0 h) 72 1 (ka_I h 72 1 + 1))) : kp_T (d + 2) 158 [.ref 72] h R := by
  have hf0 : kf g (km_0 h) := kf_m hf
  refine kq_in hf rfl rfl rfl (kq_seg kp_no 30 ?_)
  refine And.intro (fun c => ?_) (fun c => ?_)
  · refine kq_ci (kc_may0 (code := 1) hf0 rfl (by decide)) (kf_m hf0) ?_
    refine And.intro (fun c => absurd rfl c) (fun _ => ?_)
    exact ⟨trivial, e1 c⟩
  · refine kq_ci (kc_may1 (code := 1) hf0 rfl) hf0 ?_
    refine And.intro (fun _ => ?_) (fun c => absurd c (by decide))
    exact ⟨trivial, e2 c⟩
theorem kc_rows (hf : kf g h) {n : Nat} (hn : ka_I h 72 2 = nI n) (hlt : n ≤ 400) {t a b ed : Int32} (e1 : ¬ kp_tab t → R (kp_ri 0) (km_t h 1)) (e2 : kp_tab t → ¬ (kp_row a b ∧ (0 ≤ ed ∧ ed ≤ ka_I h 72 1)) → R (kp_ri 0) (km_t h 2))
    (e3 : kp_tab t → kp_row a b → (0 ≤ ed ∧ ed ≤ ka_I h 72 1) → R (kp_ri (kp_sum (km_ct h t (16 * a + b) ed) n)) (km_0 h)) : kp_T (d + 3) 160 [.ref 72, .int t, .int a, .int b, .int ed] h R := by
  have hf0 : kf g (km_0 h) := kf_m hf
  have j40 : kp_tab t → ¬ (kp_row a b ∧ (0 ≤ ed ∧ ed ≤ ka_I h 72 1)) → kq_ex g (d + 2) 160 R 40 [.ref 72, .int t, .int a, .int b, .int ed] [.ref 72] (km_0 h) := by
    intro ht hb
    refine kq_seg kp_no 10 ?_
    refine kq_ci (kc_may0 (code := 2) hf0 rfl (by decide)) (kf_m hf0) ?_
    refine And.intro (fun c => absurd rfl c) (fun _ => ?_)
    exact ⟨trivial, e2 ht hb⟩
  refine kq_in hf rfl rfl rfl (kq_seg (fun p => Nat.beq p 40) 40 ?_)
  refine kq_ci (kc_isTable (code := 1) hf0 rfl (by decide)) (kf_mh hf0) ?_
  refine And.intro (fun c => ?_) (fun c => ?_)
  · have ht : ¬ kp_tab t := kp_b0 c
    rw [show kp_mh (0 ≤ t ∧ t ≤ 3) 1 (km_0 h) = km_t h 1 from if_neg ht]
    exact ⟨trivial, e1 ht⟩
  · have ht : kp_tab t := kp_b1 c
    rw [show kp_mh (0 ≤ t ∧ t ≤ 3) 1 (km_0 h) = km_0 h from if_pos ht]
    refine kq_ci (kc_isRow hf0) hf0 ?_
    refine And.intro (fun c2 => j40 ht (fun q => kp_b0 c2 q.1)) (fun c2 => ?_)
    refine kq_ci (kc_within (lo := 0) (hi := ka_I h 72 1)) hf0 ?_
    refine And.intro (fun c4 => j40 ht (fun q => kp_b0 c4 q.2)) (fun c4 => ?_)
    refine kq_ci (kc_may1 (code := 2) hf0 rfl) hf0 ?_
    refine And.intro (fun _ => ?_) (fun c => absurd c (by decide))
    refine kq_ci (kc_countOf (h := km_0 h) hf0 hn hlt) hf0 ?_
    exact ⟨trivial, e3 ht (kp_b1 c2) (kp_b1 c4)⟩
end M4
