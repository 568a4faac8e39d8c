/-! ===== the class: drop, back, fault; the reference: back, fault; the law's wrapper of change ===== -/
section C4
variable {g : Nat × (Nat → Int32)} {d : Nat} {h : ka_H} {R : ka_R → ka_H → Prop}
theorem kc_toldOpen (hf : kf g h) {n c : Nat} (hn : ka_I h 2 6 = nI n) (hc : ka_I h 2 7 = nI c) (hlt : c ≤ 100) : kp_T (d + 2) 30 [.ref 2] h (kp_is (.int (nI n - kl_end h n c (nI c - 1))) h) := by
  refine kq_in hf rfl rfl rfl (kq_seg kp_no 12 ?_)
  refine kq_ci (kc_endOf (ed := ka_I h 2 7 - 1) hf hn hc hlt) hf ?_
  refine ⟨trivial, ?_, rfl⟩
  show kp_ri (ka_I h 2 6 - kl_end h n c (ka_I h 2 7 - 1)) = _
  rw [hn, hc]
theorem kc_xdrop (hf : kf g h) {n c : Nat} (hn : ka_I h 2 6 = nI n) (hc : ka_I h 2 7 = nI c) (hlt : c ≤ 100) (e1 : R (kp_ri (nI n - kl_end h n c (nI c - 1))) (ka_sI h 2 6 (nI n - (nI n - kl_end h n c (nI c - 1))))) : kp_T (d + 3) 83 [.ref 1] h R := by
  refine kq_in hf rfl rfl rfl (kq_seg kp_no 16 ?_)
  refine kq_ci (kc_toldOpen hf hn hc hlt) hf ?_
  refine ⟨trivial, ?_⟩
  show R (kp_ri (nI n - kl_end h n c (nI c - 1))) (ka_sI h 2 6 (ka_I h 2 6 - (nI n - kl_end h n c (nI c - 1))))
  rw [hn]
  exact e1
theorem kc_xback (hf : kf g h) {n c : Nat} (hn : ka_I h 2 6 = nI n) (hc : ka_I h 2 7 = nI c) (hlt : c ≤ 100) (e1 : nI n - kl_end h n c (nI c - 1) = 0 → R (kp_ri 0) h) (e2 : ¬ nI n - kl_end h n c (nI c - 1) = 0 → R (kp_ri 1) (ka_sI h 2 6 (nI n - 1))) : kp_T (d + 3) 87 [.ref 1] h R := by
  refine kq_in hf rfl rfl rfl (kq_seg kp_no 18 ?_)
  refine kq_ci (kc_toldOpen hf hn hc hlt) hf ?_
  refine And.intro (fun q => ?_) (fun q => ⟨trivial, e1 q⟩)
  refine ⟨trivial, ?_⟩
  show R (kp_ri 1) (ka_sI h 2 6 (ka_I h 2 6 - 1))
  rw [hn]
  exact e2 q
theorem kc_xfault (hf : kf g h) (e1 : R (kp_ri (ka_I h 9 4)) h) : kp_T (d + 1) 90 [.ref 1] h R :=
  kq_in hf rfl rfl rfl (kq_seg kp_no 6 ⟨trivial, e1⟩)
theorem kc_fault (hf : kf g h) (e1 : R (kp_ri (ka_I h 72 28)) (km_0 h)) : kp_T (d + 1) 184 [.ref 72] h R :=
  kq_in hf rfl rfl rfl (kq_seg kp_no 8 ⟨trivial, e1⟩)
/-- the law's change: 0 with the answer put away, or the exception's code -/
theorem kc_wchange (hf : kf g h) (hb : h.1 < 1000000) {n : Nat} (hn : ka_I h 2 6 = nI n) (hlt : n ≤ 400) {t a b more : Int32} (e1 : ¬ kp_tab t → R (kp_ri 1) (kx h 1)) (e2 : kp_tab t → ¬ (kp_row a b ∧ kp_more more) → R (kp_ri 2) (kx h 0))
    (e3 : kp_tab t → kp_row a b ∧ kp_more more → n = 400 → R (kp_ri 0) (ka_sJ h 102 0 (Int32.toInt64 (-1)))) (e4 : kp_tab t → kp_row a b ∧ kp_more more → n < 400 → R (kp_ri 0) (ka_sJ (kl_ad h n t (16 * a + b) more 0) 102 0 (nI (n + 1)).toInt64)) : kp_T (d + 3) 235 [.ref 1, .int t, .int a, .int b, .int more, .ref 102] h R := by
  have hin : vp_in (0 : Int32) 1 := nI_in (c := 0) (N := 1) (by omega) (by omega)
  refine kq_in hf rfl rfl rfl (kq_seg kp_no 20 ?_)
  refine kc_xchange hf hb hn hlt (fun c => ⟨kf_new hf hb, ?_⟩) (fun c c2 => ⟨kf_new hf hb, ?_⟩) (fun c c2 c3 => ⟨hf, ?_⟩) (fun c c2 c3 => ⟨kf_lad hf, ?_⟩)
  · exact ⟨trivial, e1 c⟩
  · exact ⟨trivial, e2 c c2⟩
  · exact ⟨hin, trivial, e3 c c2 c3⟩
  · exact ⟨hin, trivial, e4 c c2 c3⟩
end C4
