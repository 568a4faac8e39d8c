/-! ===== the class: what calls must bring; its ledger's small methods ===== -/
theorem kp_lt4 {t : Int32} : t < 4 ↔ t ≤ 3 := by
  rw [Int32.lt_iff_toInt_lt, Int32.le_iff_toInt_le]
  show t.toInt < 4 ↔ t.toInt ≤ 3
  omega
theorem kp_lt16 {t : Int32} : t < 16 ↔ t ≤ 15 := by
  rw [Int32.lt_iff_toInt_lt, Int32.le_iff_toInt_le]
  show t.toInt < 16 ↔ t.toInt ≤ 15
  omega
section C1
variable {g : Nat × (Nat → Int32)} {d : Nat} {h : ka_H} {R : ka_R → ka_H → Prop}
/-- the heap with a new exception -/
abbrev kx (h : ka_H) (e : Nat) : ka_H := ka_new h (50 + e) 6 6
theorem kc_reqTable (hf : kf g h) (hb : h.1 < 1000000) {t : Int32} (e1 : ¬ kp_tab t → R (.inr (1, h.1)) (kx h 1)) (e2 : kp_tab t → R (.inl none) h) : kp_T (d + 1) 117 [.int t] h R := by
  refine kq_in hf rfl rfl rfl (kq_seg kp_no 12 ?_)
  refine And.intro (fun c => ?_) (fun c => ?_)
  · exact ⟨hb, e1 (fun q => absurd c (Int32.not_lt.mpr q.1))⟩
  · refine And.intro (fun c2 => ?_) (fun c2 => ?_)
    · exact e2 ⟨Int32.not_lt.mp c, kp_lt4.mp c2⟩
    · exact ⟨hb, e1 (fun q => c2 (kp_lt4.mpr q.2))⟩
theorem kc_reqMore (hf : kf g h) (hb : h.1 < 1000000) {v : Int32} (e1 : ¬ kp_more v → R (.inr (0, h.1)) (kx h 0)) (e2 : kp_more v → R (.inl none) h) : kp_T (d + 1) 118 [.int v] h R := by
  refine kq_in hf rfl rfl rfl (kq_seg kp_no 16 ?_)
  refine And.intro (fun c => ?_) (fun c => ?_)
  · exact ⟨hb, e1 (fun q => q.1 c)⟩
  · refine And.intro (fun c2 => ?_) (fun c2 => ?_)
    · exact ⟨hb, e1 (fun q => absurd c2 (Int32.not_lt.mpr q.2.1))⟩
    · refine And.intro (fun c3 => ?_) (fun c3 => ?_)
      · exact e2 ⟨c, Int32.not_lt.mp c2, Int32.not_lt.mp c3⟩
      · exact ⟨hb, e1 (fun q => absurd c3 (Int32.not_lt.mpr q.2.2))⟩
theorem kc_reqNumber (hf : kf g h) (hb : h.1 < 1000000) {v : Int32} (e1 : ¬ (0 ≤ v ∧ v ≤ 100) → R (.inr (0, h.1)) (kx h 0)) (e2 : 0 ≤ v ∧ v ≤ 100 → R (.inl none) h) : kp_T (d + 1) 119 [.int v] h R := by
  refine kq_in hf rfl rfl rfl (kq_seg kp_no 12 ?_)
  refine And.intro (fun c => ?_) (fun c => ?_)
  · exact ⟨hb, e1 (fun q => absurd c (Int32.not_lt.mpr q.1))⟩
  · refine And.intro (fun c2 => ?_) (fun c2 => ?_)
    · exact e2 ⟨Int32.not_lt.mp c, Int32.not_lt.mp c2⟩
    · exact ⟨hb, e1 (fun q => absurd c2 (Int32.not_lt.mpr q.2))⟩
theorem kc_cellOf (hf : kf g h) (hb : h.1 < 1000000) {a b : Int32} (e1 : ¬ kp_row a b → R (.inr (0, h.1)) (kx h 0)) (e2 : kp_row a b → R (kp_ri (16 * a + b)) h) : kp_T (d + 1) 120 [.int a, .int b] h R := by
  refine kq_in hf rfl rfl rfl (kq_seg kp_no 22 ?_)
  refine And.intro (fun c => ?_) (fun c => ?_)
  · exact ⟨hb, e1 (fun q => absurd c (Int32.not_lt.mpr q.1.1))⟩
  · refine And.intro (fun c2 => ?_) (fun c2 => ?_)
    · exact ⟨hb, e1 (fun q => c2 (kp_lt16.mpr q.1.2))⟩
    · refine And.intro (fun c3 => ?_) (fun c3 => ?_)
      · exact ⟨hb, e1 (fun q => absurd c3 (Int32.not_lt.mpr q.2.1))⟩
      · refine And.intro (fun c4 => ?_) (fun c4 => ?_)
        · have := e2 ⟨⟨Int32.not_lt.mp c, kp_lt16.mp c2⟩, ⟨Int32.not_lt.mp c3, kp_lt16.mp c4⟩⟩
          rw [Int32.mul_comm] at this
          exact ⟨trivial, this⟩
        · exact ⟨hb, e1 (fun q => c4 (kp_lt16.mpr q.2.2))⟩
/-- the class's ledger after a change is written down -/
def kl_ad (h : ka_H) (n : Nat) (t cell more late : Int32) : ka_H := ka_sI (ka_sI (ka_sI (ka_sI (ka_sI (ka_sI h 3 n t) 4 n cell) 5 n more) 6 n (ka_I h 2 7)) 7 n late) 2 6 (nI (n + 1))
theorem kf_lad (hf : kf g h) {n : Nat} {t cell more late : Int32} : kf g (kl_ad h n t cell more late) := kf_w (kf_w (kf_w (kf_w (kf_w (kf_w hf 3 rfl rfl) 4 rfl rfl) 5 rfl rfl) 6 rfl rfl) 7 rfl rfl) 2 rfl rfl
theorem kc_lAdd (hf : kf g h) {n : Nat} (hn : ka_I h 2 6 = nI n) (hlt : n ≤ 400) {t cell more late : Int32} (e1 : n = 400 → R (kp_ri 0) h) (e2 : n < 400 → R (kp_ri 1) (kl_ad h n t cell more late)) : kp_T (d + 1) 26 [.ref 2, .int t, .int cell, .int more, .int late] h R := by
  refine kq_in hf rfl rfl rfl (kq_seg kp_no 46 ?_)
  refine And.intro (fun c => ?_) (fun c => ?_)
  · have hl : n < 400 := by
      rcases Nat.lt_or_ge n 400 with q | q
      · exact q
      · rw [hn] at c
        exact absurd c (nI_nlt (b := 400) (by omega) (by omega))
    have hin : vp_in (ka_I h 2 6) 400 := by rw [hn]; exact nI_in hl (by omega)
    refine And.intro hin ?_
    refine And.intro hin ?_
    refine And.intro hin ?_
    refine And.intro hin ?_
    refine And.intro hin ?_
    have := e2 hl
    unfold kl_ad at this
    rw [nI_succ, ← hn, show n = (ka_I h 2 6).toNatClampNeg by rw [hn, nI_clamp (by omega)]] at this
    exact ⟨Or.inr rfl, this⟩
  · have hl : n = 400 := by
      rcases Nat.lt_or_ge n 400 with q | q
      · rw [hn] at c
        exact absurd (nI_lt (b := 400) q (by omega)) c
      · omega
    exact ⟨Or.inl rfl, e1 hl⟩
theorem kc_isClosed (hf : kf g h) {ed : Int32} : kp_T (d + 1) 28 [.ref 2, .int ed] h (kp_is (.int (kp_b (0 ≤ ed ∧ ed < ka_I h 2 7))) h) := by
  refine kq_in hf rfl rfl rfl (kq_seg kp_no 12 ?_)
  refine And.intro (fun c => ?_) (fun c => ?_)
  · rw [kp_bF (fun q => absurd c (Int32.not_lt.mpr q.1))]
    exact ⟨Or.inl rfl, rfl, rfl⟩
  · refine And.intro (fun c2 => ?_) (fun c2 => ?_)
    · rw [kp_bF (fun q => c2 q.2)]
      exact ⟨Or.inl rfl, rfl, rfl⟩
    · rw [kp_bT ⟨Int32.not_lt.mp c, c2⟩]
      exact ⟨Or.inr rfl, rfl, rfl⟩
end C1
