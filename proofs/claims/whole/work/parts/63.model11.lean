/-! ===== the reference: works, plain, answers ===== -/
/-- same cells of the reference's nodes and changes -/
theorem kNd_cg {h h' : ka_H} (e : ∀ a, a ≠ 96 → a ≠ 97 → ka_I h' a = ka_I h a) {i k op tab o1 o2 : Nat} {H : Nat → Int32} (q : kNd h i k op tab o1 o2 H) : kNd h' i k op tab o1 o2 H := by
  unfold kNd kHold at q ⊢
  rw [e 80 (by decide) (by decide), e 81 (by decide) (by decide), e 82 (by decide) (by decide), e 83 (by decide) (by decide), e 87 (by decide) (by decide), e 88 (by decide) (by decide)]
  exact q
theorem kv_nd_cg {h h' : ka_H} (e : ∀ a, a ≠ 96 → a ≠ 97 → ka_I h' a = ka_I h a) (n : Nat) (ed : Int32) (op tab o1 o2 : Nat) (H : Nat → Int32) (NV : Nat → Nat → Int32) : kv_nd h' n ed op tab o1 o2 H NV = kv_nd h n ed op tab o1 o2 H NV := by
  funext r
  unfold kv_nd km_tb
  have : ∀ t row, km_ct h' t row ed = km_ct h t row ed := fun t row => by
    funext k
    unfold km_ct
    rw [e 73 (by decide) (by decide), e 74 (by decide) (by decide), e 75 (by decide) (by decide), e 76 (by decide) (by decide)]
  rw [e 95 (by decide) (by decide), e 72 (by decide) (by decide), this]
section M11
variable {g : Nat × (Nat → Int32)} {d : Nat} {h : ka_H} {R : ka_R → ka_H → Prop}
theorem kc_works (hf : kf g h) {q last n : Nat} {ed : Int32} (hq : q < 6) (hl : last < 12) {op tab o1 o2 : Nat → Nat} {H : Nat → Nat → Int32} {NV : Nat → Nat → Int32} (hN : ∀ k, k ≤ last → kNd h (12 * q + k) k (op k) (tab k) (o1 k) (o2 k) (H k))
    (hn : ka_I h 72 2 = nI n) (hn4 : n ≤ 400) (hrow : ∀ k, k < n → ∃ c, c < 256 ∧ ka_I h 74 k = nI c) (hmr : ka_I h 72 40 = -1 ∨ ∃ m, m < 1024 ∧ ka_I h 72 40 = nI m)
    (hNV : ∀ k r, k ≤ last → r < 256 → NV k r = kv_nd h n ed (op k) (tab k) (o1 k) (o2 k) (H k) NV r)
    (e : ∀ F S, (∀ k r, k ≤ last → r < 256 → F (256 * k + r) = NV k r) → R (.inl none) (kM h F S)) : kp_T (d + 4) 201 [.ref 72, .int (nI q), .int (nI last), .int ed] h R := by
  have rd : ∀ F S a, a ≠ 96 → a ≠ 97 → ka_I (kM h F S) a = ka_I h a := fun F S a h1 h2 => kM_In h1 h2
  have zero : ∀ k F S, k < 12 → (∀ S, kq_ex g (d + 3) 201 R 41 [.ref 72, .int (nI q), .int (nI last), .int ed, .int (nI k), .int (nI 256)] [] (kM h (kh_b F (256 * k) (fun _ => 0) 256) S)) → kq_ex g (d + 3) 201 R 12 [.ref 72, .int (nI q), .int (nI last), .int ed, .int (nI k), .int (nI 0)] [] (kM h F S) := by
    intro k F S hk out
    have hd := kq_for (P := fun r => kq_ex g (d + 3) 201 R 12 [.ref 72, .int (nI q), .int (nI last), .int ed, .int (nI k), .int (nI r)] [] (kM h (kh_b F (256 * k) (fun _ => 0) r) S)) 256 ?_ (fun r hr ih => ?_)
    · rw [kh_b_0] at hd
      exact hd
    · exact kq_seg (fun p => Nat.beq p 41) 20 ⟨fun _ => out S, fun c => absurd c (nI_nlt (b := 256) (by omega) (by omega))⟩
    · refine kq_seg (fun p => Nat.beq p 12) 20 ⟨fun c => absurd (nI_lt (b := 256) hr (by omega)) c, fun _ => ⟨by rw [nI_256m, nI_add]; exact nI_in (N := 3072) (by omega) (by omega), ?_⟩⟩
      rw [nI_256m, nI_add, nI_clamp (by omega)]
      rw [nI_succ, ← kh_b_s (n := r) (x := 0) _ _ _ rfl, ← kM_96] at ih
      exact ih
  have main : ∀ F S z5, kq_ex g (d + 3) 201 R 3 [.ref 72, .int (nI q), .int (nI last), .int ed, .int (nI 0), z5] [] (kM h F S) := by
    have hd := kq_for (P := fun k => ∀ F S z5, (∀ j r, j < k → r < 256 → F (256 * j + r) = NV j r) → kq_ex g (d + 3) 201 R 3 [.ref 72, .int (nI q), .int (nI last), .int ed, .int (nI k), z5] [] (kM h F S)) (last + 1) ?_ (fun k hk ih F S z5 hF => ?_)
    · exact fun F S z5 => hd F S z5 (fun j r hj => absurd hj (Nat.not_lt_zero j))
    · intro F S z5 hF
      exact kq_seg (fun p => Nat.beq p 3) 20 ⟨fun _ => e F S (fun k r hk hr => hF k r (by omega) hr), fun c => absurd (nI_lt (by omega) (by omega)) c⟩
    · refine kq_seg (fun p => Nat.beq p 12) 20 ⟨fun c => absurd c (nI_nlt (by omega) (by omega)), fun _ => ?_⟩
      refine zero k F S (by omega) (fun S => ?_)
      refine kq_seg (fun p => Nat.beq p 3) 20 ?_
      have hT : kp_T (d + 3) 202 [.ref 72, .int (nI (12 * q + k)), .int (nI (256 * k)), .int ed] (kM h (kh_b F (256 * k) (fun _ => 0) 256) S) (fun r h' => kf g h' ∧ r = .inl none ∧ ∃ F' S', h' = kM h F' S' ∧ (∀ j r, j < k + 1 → r < 256 → F' (256 * j + r) = NV j r)) := by
        refine kc_workNode (NV := NV) (kM_f hf) (by omega) (by omega) (kNd_cg (rd _ _) (hN k (by omega))) (by rw [rd _ _ _ (by decide) (by decide)]; exact hn) hn4 (fun j hj => by rw [rd _ _ _ (by decide) (by decide)]; exact hrow j hj) (by rw [rd _ _ _ (by decide) (by decide)]; exact hmr)
          (fun r hr => by rw [kM_I96, kh_b_T _ _ _ hr]) (fun j r hj hr => by rw [kM_I96, kh_b_F _ _ _ (by omega)]; exact hF j r hj hr) (fun S' => ?_)
        rw [kM_I96, kv_nd_cg (rd _ _)]
        rw [show kM (kM h (kh_b F (256 * k) (fun _ => 0) 256) S) (kh_b (kh_b F (256 * k) (fun _ => 0) 256) (256 * k) (kv_nd h n ed (op k) (tab k) (o1 k) (o2 k) (H k) NV) 256) S' = kM h (kh_b F (256 * k) (kv_nd h n ed (op k) (tab k) (o1 k) (o2 k) (H k) NV) 256) S' by
          show ka_sF (ka_sF (kM h _ S) 96 _) 97 S' = _
          rw [kM_F96, kM_97, kh_b_b]]
        refine ⟨kM_f hf, rfl, _, _, rfl, fun j r hj hr => ?_⟩
        rcases Nat.lt_or_ge j k with c | c
        · rw [kh_b_F _ _ _ (by omega)]
          exact hF j r c hr
        · rw [show j = k by omega, kh_b_T _ _ _ hr]
          exact (hNV k r (by omega) hr).symm
      obtain ⟨r, h', hrun, hf', rfl, F', S', rfl, hF'⟩ := hT
      rw [← nI_256m, ← nI_add, ← nI_12m] at hrun
      rw [nI_succ] at ih
      exact ⟨_, _, hrun, hf', ih F' S' _ hF'⟩
  refine kq_in hf rfl rfl rfl (kq_seg (fun p => Nat.beq p 3) 4 ?_)
  have := main (ka_I h 96) (ka_I h 97) (.retAddr 0)
  rw [kM_0] at this
  exact this
/-- nothing off, no row more -/
def kP (h : ka_H) : ka_H := ka_sI (ka_sF h 95 (kh_o (ka_I h 95) (fun _ => 0) 1024)) 72 40 (-1)
theorem kP_In (h : ka_H) {a : Nat} (k : Nat) (h1 : a ≠ 95) (h2 : a ≠ 72 ∨ k ≠ 40) : ka_I (kP h) a k = ka_I h a k := by
  unfold kP
  by_cases c : a = 72
  · rw [c, ka_IJ _ 72 _ 72 (h2.resolve_left (fun z => z c)), ka_I_Fn _ _ (by decide)]
  · rw [ka_IN _ _ _ c, ka_I_Fn _ _ h1]
theorem kP_95 (h : ka_H) {k : Nat} (hk : k < 1024) : ka_I (kP h) 95 k = 0 := by
  unfold kP
  rw [ka_IN _ _ _ (by decide), ka_I_F, kh_o_T _ _ hk]
theorem kP_40 (h : ka_H) : ka_I (kP h) 72 40 = -1 := ka_IS _ _ _ _
theorem kP_f (hf : kf g h) : kf g (kP h) := by
  unfold kP
  refine kf_w ?_ 72 rfl rfl
  refine ⟨hf.1, hf.2.1, hf.2.2.1, fun i => ⟨(hf.2.2.2 i).1, fun j => ⟨?_, ((hf.2.2.2 i).2 j).2⟩⟩⟩
  rw [← ((hf.2.2.2 i).2 j).1]
  exact congrFun (ka_I_Fn h _ (by omega)) j
theorem kc_plain (hf : kf g h) {q last n : Nat} {ed : Int32} (hq : q < 6) (hl : last < 12) {op tab o1 o2 : Nat → Nat} {H : Nat → Nat → Int32} {NV : Nat → Nat → Int32} (hN : ∀ k, k ≤ last → kNd h (12 * q + k) k (op k) (tab k) (o1 k) (o2 k) (H k))
    (hn : ka_I h 72 2 = nI n) (hn4 : n ≤ 400) (hrow : ∀ k, k < n → ∃ c, c < 256 ∧ ka_I h 74 k = nI c)
    (hNV : ∀ k r, k ≤ last → r < 256 → NV k r = if op k = 0 then kp_sum (km_ct h (nI (tab k)) (nI r) ed) n else kv_op (op k) (H k) (NV (o1 k)) (NV (o2 k)) (r / 16) (r % 16))
    (e : ∀ F S, (∀ k r, k ≤ last → r < 256 → F (256 * k + r) = NV k r) → R (.inl none) (kM (kP h) F S)) : kp_T (d + 5) 207 [.ref 72, .int (nI q), .int (nI last), .int ed] h R := by
  have hIn : ∀ a k, a ≠ 95 → a ≠ 72 ∨ k ≠ 40 → ka_I (kP h) a k = ka_I h a k := fun a k h1 h2 => kP_In h k h1 h2
  have hct : ∀ t row, km_ct (kP h) t row ed = km_ct h t row ed := fun t row => by
    funext k
    unfold km_ct
    rw [hIn 73 _ (by decide) (Or.inl (by decide)), hIn 74 _ (by decide) (Or.inl (by decide)), hIn 75 _ (by decide) (Or.inl (by decide)), hIn 76 _ (by decide) (Or.inl (by decide))]
  refine kq_in hf rfl rfl rfl (kq_seg (fun p => Nat.beq p 3) 4 ?_)
  have hkd : ∀ F, kf g (ka_sF h 95 F) := fun F => by
    refine ⟨hf.1, hf.2.1, hf.2.2.1, fun i => ⟨(hf.2.2.2 i).1, fun j => ⟨?_, ((hf.2.2.2 i).2 j).2⟩⟩⟩
    rw [← ((hf.2.2.2 i).2 j).1]
    exact congrFun (ka_I_Fn h _ (by omega)) j
  have hd := kq_for (P := fun k => kq_ex g (d + 4) 207 R 3 [.ref 72, .int (nI q), .int (nI last), .int ed, .int (nI k)] [] (ka_sF h 95 (kh_o (ka_I h 95) (fun _ => 0) k))) 1024 ?_ (fun k hk ih => ?_)
  · rw [kh_o_0, ka_sF_eta] at hd
    exact hd
  · refine kq_seg (fun p => Nat.beq p 3) 30 ⟨fun _ => ?_, fun c => absurd c (nI_nlt (b := 1024) (by omega) (by omega))⟩
    refine kc_works (op := op) (tab := tab) (o1 := o1) (o2 := o2) (H := H) (NV := NV) (kP_f hf) hq hl (fun k hk => ?_) (by rw [hIn 72 2 (by decide) (Or.inr (by decide))]; exact hn) hn4 (fun k hk => by rw [hIn 74 k (by decide) (Or.inl (by decide))]; exact hrow k hk) (Or.inl (kP_40 h)) (fun k r hk hr => ?_) (fun F S hF => ⟨kM_f (kP_f hf), e F S hF⟩)
    · have := hN k hk
      unfold kNd kHold at this ⊢
      simp only [hIn 80 _ (by decide) (Or.inl (by decide)), hIn 81 _ (by decide) (Or.inl (by decide)), hIn 82 _ (by decide) (Or.inl (by decide)), hIn 83 _ (by decide) (Or.inl (by decide)), hIn 87 _ (by decide) (Or.inl (by decide)), hIn 88 _ (by decide) (Or.inl (by decide))]
      exact this
    · rw [hNV k r hk hr]
      unfold kv_nd km_tb
      by_cases c : op k = 0
      · have ht := (hN k hk).2.2.1 c
        rw [if_pos c, if_pos c, if_pos (kP_95 h (by omega)), kP_40, if_neg (nI_m1_ne (by omega)), hct, Int32.add_zero]
      · rw [if_neg c, if_neg c]
  · refine kq_seg (fun p => Nat.beq p 3) 30 ⟨fun c => absurd (nI_lt (b := 1024) hk (by omega)) c, fun _ => ⟨⟨nI_in (N := 1024) hk (by omega), Or.inl rfl⟩, ?_⟩⟩
    rw [nI_clamp (by omega)]
    rw [nI_succ, ← kh_o_s _ _ k, ← ka_sI_F] at ih
    exact ih
theorem kc_answerAt (hf : kf g h) {q nd r : Nat} (hq : q < 6) (hnd : ka_I h 79 q = nI nd) (h1 : 1 ≤ nd) (h12 : nd ≤ 12) (hr : r < 256) : kp_T (d + 1) 211 [.ref 72, .int (nI q), .int (nI r)] h (kp_is (.int (if ka_I h 96 (256 * (nd - 1) + r) < 0 then 0 else ka_I h 96 (256 * (nd - 1) + r))) h) := by
  refine kq_in hf rfl rfl rfl (kq_seg kp_no 30 ⟨nI_in (N := 6) hq (by omega), ?_⟩)
  rw [nI_clamp (by omega), show ka_I h (kq_p h 72 11) q = nI nd from hnd]
  refine ⟨by rw [nI_m1 h1, nI_256m, nI_add]; exact nI_in (N := 3072) (by omega) (by omega), ?_⟩
  rw [nI_m1 h1, nI_256m, nI_add, nI_clamp (by omega)]
  refine ⟨fun (c : ¬ ka_I h 96 (256 * (nd - 1) + r) < 0) => ?_, fun (c : ka_I h 96 (256 * (nd - 1) + r) < 0) => ?_⟩
  · rw [if_neg c]; exact ⟨trivial, rfl, rfl⟩
  · rw [if_pos c]; exact ⟨trivial, rfl, rfl⟩
theorem kc_answerNow (hf : kf g h) {q nd n r : Nat} {ed : Int32} (hq : q < 6) (hnd : ka_I h 79 q = nI nd) (h1 : 1 ≤ nd) (h12 : nd ≤ 12) (hr : r < 256) {op tab o1 o2 : Nat → Nat} {H : Nat → Nat → Int32} {NV : Nat → Nat → Int32} (hN : ∀ k, k ≤ nd - 1 → kNd h (12 * q + k) k (op k) (tab k) (o1 k) (o2 k) (H k))
    (hn : ka_I h 72 2 = nI n) (hn4 : n ≤ 400) (hrow : ∀ k, k < n → ∃ c, c < 256 ∧ ka_I h 74 k = nI c) (hmr : ka_I h 72 40 = -1 ∨ ∃ m, m < 1024 ∧ ka_I h 72 40 = nI m)
    (hNV : ∀ k r, k ≤ nd - 1 → r < 256 → NV k r = kv_nd h n ed (op k) (tab k) (o1 k) (o2 k) (H k) NV r)
    (e : ∀ F S, R (kp_ri (if NV (nd - 1) r < 0 then 0 else NV (nd - 1) r)) (kM h F S)) : kp_T (d + 5) 208 [.ref 72, .int (nI q), .int ed, .int (nI r)] h R := by
  refine kq_in hf rfl rfl rfl (kq_seg kp_no 30 ⟨nI_in (N := 6) hq (by omega), ?_⟩)
  rw [nI_clamp (by omega), show ka_I h (kq_p h 72 11) q = nI nd from hnd]
  have hT := kc_works (d := d) (R := fun r0 h' => kf g h' ∧ r0 = .inl none ∧ ∃ F S, h' = kM h F S ∧ F (256 * (nd - 1) + r) = NV (nd - 1) r) hf hq (by omega) hN hn hn4 hrow hmr hNV (fun F S hF => ⟨kM_f hf, rfl, F, S, rfl, hF _ _ (Nat.le_refl _) hr⟩)
  obtain ⟨r0, h', hrun, hf', rfl, F, S, rfl, hF⟩ := hT
  rw [← nI_m1 h1] at hrun
  refine ⟨_, _, hrun, hf', ?_⟩
  have ha := kc_answerAt (d := d + 3) (h := kM h F S) hf' hq (by rw [kM_In (by decide) (by decide)]; exact hnd) h1 h12 hr
  rw [kM_I96, hF] at ha
  exact kq_ci ha hf' ⟨trivial, e F S⟩
end M11
