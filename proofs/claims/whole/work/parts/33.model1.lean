/-! ===== the reference: small methods ===== -/
theorem kp_b0 {p : Prop} [Decidable p] (c : kp_b p = 0) : ¬ p := fun h => by rw [kp_b, if_pos h] at c; exact absurd c (by decide)
theorem kp_b1 {p : Prop} [Decidable p] (c : ¬ kp_b p = 0) : p := by
  refine Classical.byContradiction fun h => ?_
  rw [kp_b, if_neg h] at c
  exact c rfl
theorem kp_bT {p : Prop} [Decidable p] (h : p) : kp_b p = 1 := if_pos h
theorem kp_bF {p : Prop} [Decidable p] (h : ¬ p) : kp_b p = 0 := if_neg h
theorem kp_b01 {p : Prop} [Decidable p] : kp_b p = 0 ∨ kp_b p = 1 := by
  by_cases h : p
  · exact Or.inr (kp_bT h)
  · exact Or.inl (kp_bF h)
/-- a call in a walk that answers v and leaves h1 -/
theorem kq_ci {g : Nat × (Nat → Int32)} {d m' : Nat} {as : List Value} {h h1 : ka_H} {v : Value} {P : ka_R → ka_H → Prop} (hT : kp_T d m' as h (kp_is v h1)) (hf : kf g h1) (hk : P (.inl (some v)) h1) : ∃ (r : ka_R) (h' : ka_H), ka_run d m' as h r h' ∧ kf g h' ∧ P r h' := by
  obtain ⟨r, h', q, rfl, rfl⟩ := hT
  exact ⟨_, _, q, hf, hk⟩
/-- no answer, the heap h1 -/
def kp_vo (h : ka_H) : ka_R → ka_H → Prop := fun r h' => r = .inl none ∧ h' = h
theorem kq_cv {g : Nat × (Nat → Int32)} {d m' : Nat} {as : List Value} {h h1 : ka_H} {P : ka_R → ka_H → Prop} (hT : kp_T d m' as h (kp_vo h1)) (hf : kf g h1) (hk : P (.inl none) h1) : ∃ (r : ka_R) (h' : ka_H), ka_run d m' as h r h' ∧ kf g h' ∧ P r h' := by
  obtain ⟨r, h', q, rfl, rfl⟩ := hT
  exact ⟨_, _, q, hf, hk⟩
section M1
variable {g : Nat × (Nat → Int32)} {d : Nat} {h : ka_H}
theorem kf_m (hf : kf g h) {k : Nat} {v : Int32} : kf g (ka_sI h 72 k v) := kf_sI hf (by rw [hf.2.1 72 rfl]; decide)
theorem kc_may1 (hf : kf g h) (h0 : ka_I h 72 0 = 0) {code : Int32} : kp_T (d + 1) 146 [.ref 72, .int 1, .int code] h (kp_is (.int 1) h) := by
  refine kq_in hf rfl rfl rfl (kq_seg kp_no 15 ?_)
  refine And.intro (fun _ => ?_) (fun c => absurd c (by decide))
  refine And.intro (fun c => absurd h0 c) (fun _ => ?_)
  exact ⟨Or.inr rfl, rfl, rfl⟩
theorem kc_may0 (hf : kf g h) (h0 : ka_I h 72 0 = 0) {code : Int32} (hc : code ≠ 0) : kp_T (d + 1) 146 [.ref 72, .int 0, .int code] h (kp_is (.int 0) (ka_sI h 72 0 code)) := by
  refine kq_in hf rfl rfl rfl (kq_seg kp_no 15 ?_)
  refine And.intro (fun c => absurd rfl c) (fun _ => ?_)
  refine And.intro (fun c => absurd h0 c) (fun _ => ?_)
  refine And.intro (fun _ => ?_) (fun c => absurd c hc)
  exact ⟨Or.inl rfl, rfl, rfl⟩
/-- what may(p, code) leaves -/
def kp_mh (p : Prop) [Decidable p] (code : Int32) (h : ka_H) : ka_H := if p then h else ka_sI h 72 0 code
theorem kf_mh {p : Prop} [Decidable p] (hf : kf g h) {code : Int32} : kf g (kp_mh p code h) := by
  unfold kp_mh
  split
  · exact hf
  · exact kf_m hf
theorem kc_may {p : Prop} [Decidable p] (hf : kf g h) (h0 : ka_I h 72 0 = 0) {code : Int32} (hc : code ≠ 0) : kp_T (d + 1) 146 [.ref 72, .int (kp_b p), .int code] h (kp_is (.int (kp_b p)) (kp_mh p code h)) := by
  unfold kp_mh
  by_cases hp : p
  · rw [kp_bT hp, if_pos hp]; exact kc_may1 hf h0
  · rw [kp_bF hp, if_neg hp]; exact kc_may0 hf h0 hc
theorem kc_isTable (hf : kf g h) (h0 : ka_I h 72 0 = 0) {t code : Int32} (hc : code ≠ 0) : kp_T (d + 2) 149 [.ref 72, .int t, .int code] h (kp_is (.int (kp_b (0 ≤ t ∧ t ≤ 3))) (kp_mh (0 ≤ t ∧ t ≤ 3) code h)) := by
  refine kq_in hf rfl rfl rfl (kq_seg kp_no 8 ?_)
  refine kq_ci (kc_within (lo := 0) (hi := 3)) hf ?_
  refine kq_ci (kc_may hf h0 hc) (kf_mh hf) ?_
  exact ⟨kp_b01, rfl, rfl⟩
abbrev kp_row (a b : Int32) : Prop := (0 ≤ a ∧ a ≤ 15) ∧ (0 ≤ b ∧ b ≤ 15)
theorem kc_isRow (hf : kf g h) {a b : Int32} : kp_T (d + 2) 150 [.int a, .int b] h (kp_is (.int (kp_b (kp_row a b))) h) := by
  refine kq_in hf rfl rfl rfl (kq_seg kp_no 14 ?_)
  refine kq_ci (kc_within (lo := 0) (hi := 15)) hf ?_
  refine And.intro (fun c => ?_) (fun c => ?_)
  · rw [kp_bF (fun q : kp_row a b => kp_b0 c q.1)]
    exact ⟨Or.inl rfl, rfl, rfl⟩
  · refine kq_ci (kc_within (lo := 0) (hi := 15)) hf ?_
    refine And.intro (fun c2 => ?_) (fun c2 => ?_)
    · rw [kp_bF (fun q : kp_row a b => kp_b0 c2 q.2)]
      exact ⟨Or.inl rfl, rfl, rfl⟩
    · rw [kp_bT (⟨kp_b1 c, kp_b1 c2⟩ : kp_row a b)]
      exact ⟨Or.inr rfl, rfl, rfl⟩
abbrev kp_more (v : Int32) : Prop := v ≠ 0 ∧ (-9 ≤ v ∧ v ≤ 9)
theorem kc_isMore (hf : kf g h) {v : Int32} : kp_T (d + 2) 151 [.int v] h (kp_is (.int (kp_b (kp_more v))) h) := by
  refine kq_in hf rfl rfl rfl (kq_seg kp_no 11 ?_)
  refine And.intro (fun c => ?_) (fun c => ?_)
  · rw [kp_bF (fun q : kp_more v => q.1 c)]
    exact ⟨Or.inl rfl, rfl, rfl⟩
  · refine kq_ci (kc_within (lo := -9) (hi := 9)) hf ?_
    refine And.intro (fun c2 => ?_) (fun c2 => ?_)
    · rw [kp_bF (fun q : kp_more v => kp_b0 c2 q.2)]
      exact ⟨Or.inl rfl, rfl, rfl⟩
    · rw [kp_bT (⟨c, kp_b1 c2⟩ : kp_more v)]
      exact ⟨Or.inr rfl, rfl, rfl⟩
/-- the heap after a change is written down -/
def kp_ad (h : ka_H) (n : Nat) (t a b more late : Int32) : ka_H := ka_sI (ka_sI (ka_sI (ka_sI (ka_sI (ka_sI h 73 n t) 74 n (16 * a + b)) 75 n more) 76 n (ka_I h 72 1)) 77 n late) 72 2 (nI (n + 1))
theorem kc_adds (hf : kf g h) {n : Nat} (hn : ka_I h 72 2 = nI n) (hlt : n < 400) {t a b more late : Int32} (hl : late = 0 ∨ late = 1) : kp_T (d + 1) 152 [.ref 72, .int t, .int a, .int b, .int more, .int late] h (kp_vo (kp_ad h n t a b more late)) := by
  refine kq_in hf rfl rfl rfl (kq_seg kp_no 42 ?_)
  have hin : vp_in (ka_I h 72 2) 400 := by rw [hn]; exact nI_in hlt (by omega)
  refine And.intro hin ?_
  refine And.intro hin ?_
  refine And.intro hin ?_
  refine And.intro hin ?_
  refine And.intro (And.intro hin hl) ?_
  refine And.intro rfl ?_
  unfold kp_ad
  rw [nI_succ, ← hn]
  rw [show n = (ka_I h 72 2).toNatClampNeg by rw [hn, nI_clamp (by omega)]]
  rfl
end M1
