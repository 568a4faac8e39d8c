/-! ===== the class: change, late, room, close ===== -/
section C2
variable {g : Nat × (Nat → Int32)} {d : Nat} {h : ka_H} {R : ka_R → ka_H → Prop}
theorem kc_xchange (hf : kf g h) (hb : h.1 < 1000000) {n : Nat} (hn : ka_I h 2 6 = nI n) (hlt : n ≤ 400) {t a b more : Int32} (e1 : ¬ kp_tab t → R (.inr (1, h.1)) (kx h 1)) (e2 : kp_tab t → ¬ (kp_row a b ∧ kp_more more) → R (.inr (0, h.1)) (kx h 0))
    (e3 : kp_tab t → kp_row a b ∧ kp_more more → n = 400 → R (kp_ri (-1)) h) (e4 : kp_tab t → kp_row a b ∧ kp_more more → n < 400 → R (kp_ri (nI (n + 1))) (kl_ad h n t (16 * a + b) more 0)) : kp_T (d + 2) 80 [.ref 1, .int t, .int a, .int b, .int more] h R := by
  refine kq_in hf rfl rfl rfl (kq_seg kp_no 22 ?_)
  refine kc_reqTable hf hb (fun c => ⟨kf_new hf hb, e1 c⟩) (fun c => ⟨hf, ?_⟩)
  refine kc_cellOf hf hb (fun c2 => ⟨kf_new hf hb, e2 c (fun q => c2 q.1)⟩) (fun c2 => ⟨hf, ?_⟩)
  refine kc_reqMore hf hb (fun c3 => ⟨kf_new hf hb, e2 c (fun q => c3 q.2)⟩) (fun c3 => ⟨hf, ?_⟩)
  refine kc_lAdd hf hn hlt (fun c4 => ⟨hf, ?_⟩) (fun c4 => ⟨kf_lad hf, ?_⟩)
  · refine And.intro (fun _ => ?_) (fun q => absurd rfl q)
    exact ⟨trivial, e3 c ⟨c2, c3⟩ c4⟩
  · refine And.intro (fun q => absurd q (by decide)) (fun _ => ?_)
    exact ⟨trivial, e4 c ⟨c2, c3⟩ c4⟩
theorem kc_xlate (hf : kf g h) (hb : h.1 < 1000000) {n : Nat} (hn : ka_I h 2 6 = nI n) (hlt : n ≤ 400) {t a b more ed : Int32} (e1 : ¬ kp_tab t → R (.inr (1, h.1)) (kx h 1)) (e2 : kp_tab t → ¬ ((kp_row a b ∧ kp_more more) ∧ (0 ≤ ed ∧ ed < ka_I h 2 7)) → R (.inr (0, h.1)) (kx h 0))
    (e3 : kp_tab t → kp_row a b ∧ kp_more more → (0 ≤ ed ∧ ed < ka_I h 2 7) → ka_I h 2 8 < ka_I h 2 7 - ed → R (kp_ri 0) h)
    (e4 : kp_tab t → kp_row a b ∧ kp_more more → (0 ≤ ed ∧ ed < ka_I h 2 7) → ¬ ka_I h 2 8 < ka_I h 2 7 - ed → n = 400 → R (kp_ri (-1)) h)
    (e5 : kp_tab t → kp_row a b ∧ kp_more more → (0 ≤ ed ∧ ed < ka_I h 2 7) → ¬ ka_I h 2 8 < ka_I h 2 7 - ed → n < 400 → R (kp_ri 1) (kl_ad h n t (16 * a + b) more 1)) : kp_T (d + 2) 81 [.ref 1, .int t, .int a, .int b, .int more, .int ed] h R := by
  refine kq_in hf rfl rfl rfl (kq_seg kp_no 42 ?_)
  refine kc_reqTable hf hb (fun c => ⟨kf_new hf hb, e1 c⟩) (fun c => ⟨hf, ?_⟩)
  refine kc_cellOf hf hb (fun c2 => ⟨kf_new hf hb, e2 c (fun q => c2 q.1.1)⟩) (fun c2 => ⟨hf, ?_⟩)
  refine kc_reqMore hf hb (fun c3 => ⟨kf_new hf hb, e2 c (fun q => c3 q.1.2)⟩) (fun c3 => ⟨hf, ?_⟩)
  refine kq_ci (kc_isClosed hf) hf ?_
  refine And.intro (fun c4 => ?_) (fun c4 => ?_)
  · refine And.intro (fun c5 => ?_) (fun c5 => ⟨trivial, e3 c ⟨c2, c3⟩ (kp_b1 c4) c5⟩)
    refine kc_lAdd hf hn hlt (fun c6 => ⟨hf, ?_⟩) (fun c6 => ⟨kf_lad hf, ?_⟩)
    · refine And.intro (fun _ => ?_) (fun q => absurd rfl q)
      exact ⟨trivial, e4 c ⟨c2, c3⟩ (kp_b1 c4) c5 c6⟩
    · refine And.intro (fun q => absurd q (by decide)) (fun _ => ?_)
      exact ⟨trivial, e5 c ⟨c2, c3⟩ (kp_b1 c4) c5 c6⟩
  · exact ⟨hb, e2 c (fun q => kp_b0 c4 q.2)⟩
end C2
