/-! ===== operators: the reference's where ===== -/
/-- what stands behind a where's operand -/
def kw_o (tp : Nat → Int32) (n : Nat) (oc : Nat → kO) (p : Nat) : kO := if kt_s tp n p < n ∧ tp (kt_s tp n p) = 58 then (match oc (kt_s tp n p + 1) with
  | .inl x => .inl x
  | .inr (p4, tk, cd, H) => if kt_s tp n p4 < n ∧ tp (kt_s tp n p4) = 41 then .inr (kt_s tp n p4 + 1, tk, cd, H) else .inl (1, kt_s tp n p4)) else .inl (1, kt_s tp n p)
section O3
variable {g : Nat × (Nat → Int32)} {d : Nat} {h : ka_H} {s : Nat → Nat → Int32} {R : ka_R → ka_H → Prop} {n p Q bg en : Nat} {tp : Nat → Int32}
theorem kt_nd13 {tab a b : Int32} : (∀ c i', i' ≠ 12 * Q + en → c ≠ 79 → kt_nd s (12 * Q + en) Q en 13 tab a b c i' = s c i') ∧ (∀ c, c = 72 ∨ 85 ≤ c → kt_nd s (12 * Q + en) Q en 13 tab a b c = s c) ∧ (∀ q, q ≠ Q → kt_nd s (12 * Q + en) Q en 13 tab a b 79 q = s 79 q) ∧ kt_nd s (12 * Q + en) Q en 13 tab a b 79 Q = nI (en + 1) ∧
    kt_nd s (12 * Q + en) Q en 13 tab a b 80 (12 * Q + en) = 13 ∧ kt_nd s (12 * Q + en) Q en 13 tab a b 81 (12 * Q + en) = tab ∧ kt_nd s (12 * Q + en) Q en 13 tab a b 82 (12 * Q + en) = a ∧ kt_nd s (12 * Q + en) Q en 13 tab a b 83 (12 * Q + en) = b := by
  unfold kt_nd
  rw [if_pos rfl]
  refine ⟨fun c i' hi hc => ?_, fun c hc => ?_, fun q hq => ?_, ka_uS _ _ _ _, ?_, ?_, ?_, ?_⟩
  · rw [ka_uN _ _ _ _ hc, ka_uJ _ _ _ _ _ hi, ka_uJ _ _ _ _ _ hi, ka_uJ _ _ _ _ _ hi, ka_uJ _ _ _ _ _ hi]
  · funext j
    rw [ka_uN _ _ _ _ (by omega), ka_uN _ _ _ _ (by omega), ka_uN _ _ _ _ (by omega), ka_uN _ _ _ _ (by omega), ka_uN _ _ _ _ (by omega)]
  · rw [ka_uJ _ _ _ _ _ hq, ka_uN _ _ _ _ (by decide), ka_uN _ _ _ _ (by decide), ka_uN _ _ _ _ (by decide), ka_uN _ _ _ _ (by decide)]
  · rw [ka_uN _ _ _ _ (by decide), ka_uN _ _ _ _ (by decide), ka_uN _ _ _ _ (by decide), ka_uN _ _ _ _ (by decide), ka_uS]
  · rw [ka_uN _ _ _ _ (by decide), ka_uN _ _ _ _ (by decide), ka_uN _ _ _ _ (by decide), ka_uS]
  · rw [ka_uN _ _ _ _ (by decide), ka_uN _ _ _ _ (by decide), ka_uS]
  · rw [ka_uN _ _ _ _ (by decide), ka_uS]
theorem kms_sF' {a : Nat} (ha : ∀ k, pm a k = true) (f : Nat → Int32) (k : Nat) (v : Int32) : ka_sI (kms h (ka_uF s a f)) a k v = kms h (ka_uF s a (kh_u f k v)) := by
  rw [kms_sI v (ha k), ka_u_uF]
theorem kc_where0 (hf : kf g h) (hb : ¬ s 72 24 = -1) {a : Int32} (e : R (kp_ri 0) (kms h (ka_u (ka_u s 72 30 0) 72 31 0))) : kp_T (d + 5) 175 [.ref 72, .int a] (kms h s) R := by
  refine kq_in (kms_f hf) rfl rfl rfl (kq_seg (fun p => Nat.beq p 16) 40 ?_)
  refine kq_cv (kc_need0 hf hb) (kms_f hf) ?_
  have ew : ka_sI (ka_sI (kms h s) 72 30 0) 72 31 0 = kms h (ka_u (ka_u s 72 30 0) 72 31 0) := by rw [kms_sI _ rfl, kms_sI _ rfl]
  suffices j16 : kq_ex g (d + 4) 175 R 16 [.ref 72, .int a, .retAddr 0, .retAddr 0, .retAddr 0] [] (kms h (ka_u (ka_u s 72 30 0) 72 31 0)) by
    rw [← ew] at j16
    exact j16
  have hb' : ¬ (ka_u (ka_u s 72 30 0) 72 31 0) 72 24 = -1 := hb
  refine kq_seg kp_no 20 ?_
  refine kq_cv (kc_any0 hf hb') (kms_f hf) ?_
  refine kq_cv (kc_need0 hf hb') (kms_f hf) ?_
  exact kq_ci (kc_fine0 hf hb') (kms_f hf) ⟨fun c => absurd rfl c, fun _ => ⟨trivial, e⟩⟩
theorem kc_readWhere (hf : kf g h) (hT : kT h n tp) (hQ : ka_I h 72 9 = nI Q) (hQ6 : Q < 6) (h23 : s 72 23 = nI p) (hpn : p ≤ n) (h24 : s 72 24 = -1) (h26 : s 72 26 = nI 0) (hen : s 79 Q = nI en) (h12 : en < 12) {oc : Nat → kO} (hoc : ∀ p', p < p' → p' ≤ n → kMd (MP 0 + 2) 178 n tp p' 0 (oc p') ∧ kPd n p' 16 (oc p')) {a : Int32}
    (e1 : ∀ kd pl s', kw_o tp n oc p = .inl (kd, pl) → kMfr Q en s s' → s' 72 24 = nI pl → s' 72 25 = nI kd → R (kp_ri 0) (kms h s'))
    (e2 : ∀ p' tk cd H s', kw_o tp n oc p = .inr (p', tk, cd, H) → kMfr Q en s s' → s' 72 23 = nI p' → s' 72 24 = -1 → s' 72 26 = s 72 26 → s' 72 27 = s 72 27 → s' 79 Q = nI (en + 1) → (s' 80 (12 * Q + en) = 13 ∧ s' 81 (12 * Q + en) = 0 ∧ s' 82 (12 * Q + en) = a ∧ s' 83 (12 * Q + en) = -1 ∧ s' 86 (12 * Q + en) = nI tk.length ∧ s' 88 (12 * Q + en) = nI cd.length ∧ (∀ j, j < tk.length → s' 85 (200 * (12 * Q + en) + j) = tM (tk.getD j 0)) ∧ ∀ j, j < cd.length → s' 87 (200 * (12 * Q + en) + j) = cd.getD j 0) → R (kp_ri (nI en)) (kms h s')) : kp_T (d + 41) 175 [.ref 72, .int a] (kms h s) R := by
  have h200 := hT.2.1
  have hle := kt_s_le tp n p hpn
  have hrdQ : ∀ s', ka_I (kms h s') 72 9 = nI Q := fun s' => (kms_N rfl).trans hQ
  have hbad : ∀ s' kd pl, pl ≤ 200 → kw_o tp n oc p = .inl (kd, pl) → kMfr Q en s s' → s' 72 24 = nI pl → s' 72 25 = nI kd → kq_ex g (d + 40) 175 R 26 [.ref 72, .int a, .retAddr 0, .retAddr 0, .retAddr 0] [] (kms h s') := by
    intro s' kd pl hpl hk hfr c24 c25
    have hb' : ¬ s' 72 24 = -1 := by rw [c24]; exact nI_ne_m1 (by omega)
    refine kq_seg kp_no 20 ?_
    exact kq_ci (kc_fine0 hf hb') (kms_f hf) ⟨fun c => absurd rfl c, fun _ => ⟨trivial, e1 kd pl s' hk hfr c24 c25⟩⟩
  have j16b : ∀ s' kd pl, pl ≤ 200 → kw_o tp n oc p = .inl (kd, pl) → kMfr Q en s s' → s' 72 24 = nI pl → s' 72 25 = nI kd → kq_ex g (d + 40) 175 R 16 [.ref 72, .int a, .retAddr 0, .retAddr 0, .retAddr 0] [] (kms h s') := by
    intro s' kd pl hpl hk hfr c24 c25
    have hb' : ¬ s' 72 24 = -1 := by rw [c24]; exact nI_ne_m1 (by omega)
    refine kq_seg (fun p => Nat.beq p 26) 20 ?_
    refine kq_cv (kc_any0 hf hb') (kms_f hf) ?_
    exact kq_cv (kc_need0 hf hb') (kms_f hf) (hbad s' kd pl hpl hk hfr c24 c25)
  have ew : ∀ s', ka_sI (ka_sI (kms h s') 72 30 0) 72 31 0 = kms h (ka_u (ka_u s' 72 30 0) 72 31 0) := fun s' => by rw [kms_sI _ rfl, kms_sI _ rfl]
  refine kq_in (kms_f hf) rfl rfl rfl (kq_seg (fun p => Nat.beq p 16) 40 ?_)
  refine kc_need hf hT h23 hpn h24 (by decide) (fun a1 a2 => ⟨kms_f hf, ?_⟩) (fun a1 => ⟨kms_f hf, ?_⟩)
  · obtain ⟨hM, hP⟩ := hoc (kt_s tp n p + 1) (by omega) (by omega)
    generalize hs1 : ka_u (ka_u (kt_at s (kt_s tp n p + 1)) 72 30 0) 72 31 0 = s1
    have b23 : s1 72 23 = nI (kt_s tp n p + 1) := by rw [← hs1]; rfl
    have b24 : s1 72 24 = -1 := by rw [← hs1]; exact h24
    have b26 : s1 72 26 = nI 0 := by rw [← hs1]; exact h26
    have b30 : s1 72 30 = nI 0 := by rw [← hs1]; rfl
    have b31 : s1 72 31 = nI 0 := by rw [← hs1]; rfl
    have bfr : kt_fr s s1 := by rw [← hs1]; exact (kt_fr.u (by decide) _).tr ((kt_fr.u (by decide) _).tr (kt_fr.u (by decide) _))
    have b26' : s1 72 26 = s 72 26 := b26.trans h26.symm
    suffices j16 : kq_ex g (d + 40) 175 R 16 [.ref 72, .int a, .retAddr 0, .retAddr 0, .retAddr 0] [] (kms h s1) by
      rw [← hs1, ← ew] at j16
      exact j16
    refine kq_seg (fun p => Nat.beq p 26) 20 ?_
    have hMd := hM.le (D' := d + 40) (by unfold MP; omega)
    refine hMd g h s1 0 0 _ hf hT b23 b24 b26 b30 b31 (by omega) (by omega) (fun kd pl s' ho hfr c24 c25 => ⟨kms_f hf, ?_⟩) (fun p4 tk cd H s3 ho hok => ⟨kms_f hf, ?_⟩)
    · have hpl := hP.1 kd pl ho
      have hb' : ¬ s' 72 24 = -1 := by rw [c24]; exact nI_ne_m1 (by omega)
      refine kq_cv (kc_need0 hf hb') (kms_f hf) ?_
      refine hbad s' kd pl (by omega) ?_ (bfr.tr hfr).m c24 c25
      unfold kw_o
      rw [if_pos (show kt_s tp n p < n ∧ tp (kt_s tp n p) = 58 from ⟨a1, a2⟩), ho]
    · have hpp := hP.2 p4 tk cd H ho
      have hle4 := kt_s_le tp n p4 hpp.2.1
      refine kc_need hf hT hok.2.1 hpp.2.1 hok.2.2.1 (by decide) (fun c1 c2 => ⟨kms_f hf, ?_⟩) (fun c1 => ⟨kms_f hf, ?_⟩)
      · have hko : kw_o tp n oc p = .inr (kt_s tp n p4 + 1, tk, cd, H) := by
          unfold kw_o
          rw [if_pos (show kt_s tp n p < n ∧ tp (kt_s tp n p) = 58 from ⟨a1, a2⟩), ho]
          show (if _ then _ else _) = _
          rw [if_pos (show kt_s tp n p4 < n ∧ tp (kt_s tp n p4) = 41 from ⟨c1, c2⟩)]
        have ok4 := kt_oka hok (kt_s tp n p4 + 1)
        have htk : tk.length ≤ 200 := by omega
        have hcd : cd.length ≤ 200 := by omega
        have hen4 : (kt_at s3 (kt_s tp n p4 + 1)) 79 Q = nI en := by
          rw [show (kt_at s3 (kt_s tp n p4 + 1)) 79 = s 79 from (bfr.tr ok4.1).1 79 (by decide) (by decide) (by decide)]; exact hen
        generalize hs4 : kt_at s3 (kt_s tp n p4 + 1) = s4 at ok4 hen4
        have h30 : s4 72 30 = nI tk.length := by rw [ok4.2.2.2.2.1.1, Nat.zero_add]
        have h31 : s4 72 31 = nI cd.length := by rw [ok4.2.2.2.2.2.1, Nat.zero_add]
        have hfrA := (bfr.tr ok4.1).m (Q := Q) (en := en)
        refine (kq_seg (fun p => Nat.beq p 78) 60 ?_ : kq_ex g (d + 40) 175 R 26 [.ref 72, .int a, .retAddr 0, .retAddr 0, .retAddr 0] [] (kms h s4))
        refine kq_ci (kc_fine1 hf ok4.2.2.1) (kms_f hf) ⟨fun _ => ?_, fun c => absurd c (by decide)⟩
        refine kc_node (op := 13) (tab := 0) (a := a) (b := -1) hf hQ hQ6 hen4 h12 ⟨kms_f hf, ?_⟩
        obtain ⟨n1, n2, n3, n4, n5, n6, n7, n8⟩ := kt_nd13 (s := s4) (Q := Q) (en := en) (tab := 0) (a := a) (b := -1)
        generalize hs5 : kt_nd s4 (12 * Q + en) Q en 13 0 a (-1) = s5 at n1 n2 n3 n4 n5 n6 n7 n8
        have hix : Int32.ofInt 12 * nI Q + nI en = nI (12 * Q + en) := by rw [nI_12m, nI_add]
        have e30 : s5 72 30 = nI tk.length := by rw [n2 72 (by omega)]; exact h30
        have e31 : s5 72 31 = nI cd.length := by rw [n2 72 (by omega)]; exact h31
        refine ⟨by rw [hrdQ, hix]; exact nI_in (N := 72) (by omega) (by omega), ?_⟩
        rw [hrdQ, hix, nI_clamp (by omega), show ka_I (kms h s5) 72 30 = nI tk.length from e30, show ka_sI (kms h s5) (kq_p (kms h s5) 72 18) (12 * Q + en) (nI tk.length) = kms h (ka_u s5 86 (12 * Q + en) (nI tk.length)) from kms_sI (a := 86) _ rfl]
        refine ⟨nI_in (N := 72) (by omega) (by omega), ?_⟩
        rw [nI_clamp (by omega), show ka_I (kms h (ka_u s5 86 (12 * Q + en) (nI tk.length))) 72 31 = nI cd.length from e31, show ka_sI (kms h (ka_u s5 86 (12 * Q + en) (nI tk.length))) (kq_p (kms h (ka_u s5 86 (12 * Q + en) (nI tk.length))) 72 20) (12 * Q + en) (nI cd.length) = kms h (ka_u (ka_u s5 86 (12 * Q + en) (nI tk.length)) 88 (12 * Q + en) (nI cd.length)) from kms_sI (a := 88) _ rfl]
        generalize hs6 : ka_u (ka_u s5 86 (12 * Q + en) (nI tk.length)) 88 (12 * Q + en) (nI cd.length) = s6
        have f6 : ∀ c, c ≠ 86 → c ≠ 88 → s6 c = s5 c := fun c y1 y2 => by
          rw [← hs6]; funext j; rw [ka_uN _ _ _ _ y2, ka_uN _ _ _ _ y1]
        have e30' : s6 72 30 = nI tk.length := by rw [f6 72 (by decide) (by decide)]; exact e30
        have e31' : s6 72 31 = nI cd.length := by rw [f6 72 (by decide) (by decide)]; exact e31
        have hT90 : ∀ j, j < tk.length → s6 90 j = tM (tk.getD j 0) := fun j hj => by
          rw [f6 90 (by decide) (by decide), n2 90 (by omega)]
          have := ok4.2.2.2.2.1.2.2 j hj
          rw [Nat.zero_add] at this
          exact this
        have hT91 : ∀ j, j < cd.length → s6 91 j = cd.getD j 0 := fun j hj => by
          rw [f6 91 (by decide) (by decide), n2 91 (by omega)]
          have := ok4.2.2.2.2.2.2.2 j hj
          rw [Nat.zero_add] at this
          exact this
        have hix2 : ∀ k, Int32.ofInt 200 * nI (12 * Q + en) + nI k = nI (200 * (12 * Q + en) + k) := fun k => by rw [nI_200m, nI_add]
        have fin : R (kp_ri (nI en)) (kms h (ka_uF (ka_uF s6 85 (kh_b (s6 85) (200 * (12 * Q + en)) (s6 90) tk.length)) 87 (kh_b (s6 87) (200 * (12 * Q + en)) (s6 91) cd.length))) := by
          generalize hs7 : ka_uF (ka_uF s6 85 (kh_b (s6 85) (200 * (12 * Q + en)) (s6 90) tk.length)) 87 (kh_b (s6 87) (200 * (12 * Q + en)) (s6 91) cd.length) = s7
          have g1 : ∀ c, c ≠ 85 → c ≠ 87 → s7 c = s6 c := fun c y1 y2 => by rw [← hs7, ka_uF_N _ _ y2, ka_uF_N _ _ y1]
          have g85 : s7 85 = kh_b (s6 85) (200 * (12 * Q + en)) (s6 90) tk.length := by rw [← hs7, ka_uF_N _ _ (by decide), ka_uF_S]
          have g87 : s7 87 = kh_b (s6 87) (200 * (12 * Q + en)) (s6 91) cd.length := by rw [← hs7, ka_uF_S]
          have x72 : ∀ k, s7 72 k = s4 72 k := fun k => by rw [g1 72 (by decide) (by decide), f6 72 (by decide) (by decide), n2 72 (by omega)]
          refine e2 _ tk cd H s7 hko ?_ ?_ ?_ ?_ ?_ ?_ ⟨?_, ?_, ?_, ?_, ?_, ?_, fun j hj => ?_, fun j hj => ?_⟩
          · refine hfrA.tr ⟨fun q hq => ?_, fun c hc i hi => ?_, fun c hc j hj => ?_⟩
            · rw [g1 79 (by decide) (by decide), f6 79 (by decide) (by decide), n3 q hq]
            · rw [g1 c (by omega) (by omega), ← hs6]
              by_cases y : c = 88
              · rw [y, ka_uJ _ _ _ _ _ (by omega), ka_uN _ _ _ _ (by decide), n1 88 i (by omega) (by decide)]
              · rw [ka_uN _ _ _ _ y]
                by_cases y2 : c = 86
                · rw [y2, ka_uJ _ _ _ _ _ (by omega), n1 86 i (by omega) (by decide)]
                · rw [ka_uN _ _ _ _ y2, n1 c i (by omega) (by omega)]
            · rcases hc with z | z
              · rw [z, g85, kh_b_F _ _ _ (by omega), f6 85 (by decide) (by decide), n2 85 (by omega)]
              · rw [z, g87, kh_b_F _ _ _ (by omega), f6 87 (by decide) (by decide), n2 87 (by omega)]
          · rw [x72]; exact ok4.2.1
          · rw [x72]; exact ok4.2.2.1
          · rw [x72]; exact ok4.2.2.2.1.trans b26'
          · rw [x72]; exact (bfr.tr ok4.1).2
          · rw [g1 79 (by decide) (by decide), f6 79 (by decide) (by decide), n4]
          · rw [g1 80 (by decide) (by decide), f6 80 (by decide) (by decide), n5]
          · rw [g1 81 (by decide) (by decide), f6 81 (by decide) (by decide), n6]
          · rw [g1 82 (by decide) (by decide), f6 82 (by decide) (by decide), n7]
          · rw [g1 83 (by decide) (by decide), f6 83 (by decide) (by decide), n8]
          · rw [g1 86 (by decide) (by decide), ← hs6, ka_uN _ _ _ _ (by decide), ka_uS]
          · rw [g1 88 (by decide) (by decide), ← hs6, ka_uS]
          · rw [g85, kh_b_T _ _ _ hj, hT90 j hj]
          · rw [g87, kh_b_T _ _ _ hj, hT91 j hj]
        have loop2 : ∀ z, kq_ex g (d + 40) 175 R 113 [.ref 72, .int a, .int (nI en), .int (nI (12 * Q + en)), z] [] (kms h (ka_uF s6 85 (kh_b (s6 85) (200 * (12 * Q + en)) (s6 90) tk.length))) := by
          intro z
          generalize hs8 : ka_uF s6 85 (kh_b (s6 85) (200 * (12 * Q + en)) (s6 90) tk.length) = s8 at fin
          have f8 : ∀ c, c ≠ 85 → s8 c = s6 c := fun c y => by rw [← hs8, ka_uF_N _ _ y]
          refine kq_seg (fun p => Nat.beq p 116) 4 ?_
          have hd := kq_for (P := fun k => kq_ex g (d + 40) 175 R 116 [.ref 72, .int a, .int (nI en), .int (nI (12 * Q + en)), .int (nI k)] [] (kms h (ka_uF s8 87 (kh_b (s6 87) (200 * (12 * Q + en)) (s6 91) k)))) cd.length ?_ (fun k hk ih => ?_)
          · rw [kh_b_0, ← f8 87 (by decide), ka_uF_id] at hd
            exact hd
          · refine kq_seg (fun p => Nat.beq p 116) 20 ⟨fun _ => ⟨trivial, fin⟩, fun c => ?_⟩
            rw [show ∀ F, ka_I (kms h (ka_uF s8 87 F)) 72 31 = nI cd.length from fun F => by rw [kms_I rfl, ka_uF_N _ _ (by decide), f8 72 (by decide)]; exact e31'] at c
            exact absurd c (nI_nlt (by omega) (by omega))
          · refine kq_seg (fun p => Nat.beq p 116) 40 ⟨fun c => ?_, fun c => ⟨nI_in (N := 200) (by omega) (by omega), ⟨by rw [hix2]; exact nI_in (N := 14400) (by omega) (by omega), ?_⟩⟩⟩
            · rw [show ∀ F, ka_I (kms h (ka_uF s8 87 F)) 72 31 = nI cd.length from fun F => by rw [kms_I rfl, ka_uF_N _ _ (by decide), f8 72 (by decide)]; exact e31'] at c
              exact absurd (nI_lt hk (by omega)) c
            · rw [hix2, nI_clamp (by omega), nI_clamp (by omega)]
              generalize hF : kh_b (s6 87) (200 * (12 * Q + en)) (s6 91) k = F
              rw [show ka_I (kms h (ka_uF s8 87 F)) (kq_p (kms h (ka_uF s8 87 F)) 72 33) k = s6 91 k from (kms_I (a := 91) rfl).trans (by rw [ka_uF_N _ _ (by decide), f8 91 (by decide)])]
              rw [show ka_sI (kms h (ka_uF s8 87 F)) (kq_p (kms h (ka_uF s8 87 F)) 72 19) (200 * (12 * Q + en) + k) (s6 91 k) = kms h (ka_uF s8 87 (kh_u F (200 * (12 * Q + en) + k) (s6 91 k))) from kms_sF' (a := 87) (fun _ => rfl) _ _ _]
              rw [nI_succ, ← kh_b_s _ _ _ k rfl, hF] at ih
              exact ih
        refine (kq_for (P := fun k => kq_ex g (d + 40) 175 R 78 [.ref 72, .int a, .int (nI en), .int (nI (12 * Q + en)), .int (nI k)] [] (kms h (ka_uF s6 85 (kh_b (s6 85) (200 * (12 * Q + en)) (s6 90) k)))) tk.length ?_ (fun k hk ih => ?_) |> fun hd => by
          rw [kh_b_0, ka_uF_id] at hd
          exact hd)
        · refine kq_seg (fun p => Nat.beq p 113) 20 ⟨fun _ => loop2 _, fun c => ?_⟩
          rw [show ∀ F, ka_I (kms h (ka_uF s6 85 F)) 72 30 = nI tk.length from fun F => by rw [kms_I rfl, ka_uF_N _ _ (by decide)]; exact e30'] at c
          exact absurd c (nI_nlt (by omega) (by omega))
        · refine kq_seg (fun p => Nat.beq p 78) 40 ⟨fun c => ?_, fun c => ⟨nI_in (N := 200) (by omega) (by omega), ⟨by rw [hix2]; exact nI_in (N := 14400) (by omega) (by omega), ?_⟩⟩⟩
          · rw [show ∀ F, ka_I (kms h (ka_uF s6 85 F)) 72 30 = nI tk.length from fun F => by rw [kms_I rfl, ka_uF_N _ _ (by decide)]; exact e30'] at c
            exact absurd (nI_lt hk (by omega)) c
          · rw [hix2, nI_clamp (by omega), nI_clamp (by omega)]
            generalize hF : kh_b (s6 85) (200 * (12 * Q + en)) (s6 90) k = F
            rw [show ka_I (kms h (ka_uF s6 85 F)) (kq_p (kms h (ka_uF s6 85 F)) 72 32) k = s6 90 k from (kms_I (a := 90) rfl).trans (by rw [ka_uF_N _ _ (by decide)])]
            rw [show ka_sI (kms h (ka_uF s6 85 F)) (kq_p (kms h (ka_uF s6 85 F)) 72 17) (200 * (12 * Q + en) + k) (s6 90 k) = kms h (ka_uF s6 85 (kh_u F (200 * (12 * Q + en) + k) (s6 90 k))) from kms_sF' (a := 85) (fun _ => rfl) _ _ _]
            rw [nI_succ, ← kh_b_s _ _ _ k rfl, hF] at ih
            exact ih
      · refine hbad (kt_bad (kt_at s3 (kt_s tp n p4)) 1 (nI (kt_s tp n p4))) 1 (kt_s tp n p4) (by omega) ?_ (bfr.tr (hok.1.tr ((kt_fr.u (by decide) _).tr ((kt_fr.u (by decide) _).tr (kt_fr.u (by decide) _))))).m rfl rfl
        unfold kw_o
        rw [if_pos (show kt_s tp n p < n ∧ tp (kt_s tp n p) = 58 from ⟨a1, a2⟩), ho]
        show (if _ then _ else _) = _
        rw [if_neg (show ¬ (kt_s tp n p4 < n ∧ tp (kt_s tp n p4) = 41) from c1)]
  · have hko : kw_o tp n oc p = .inl (1, kt_s tp n p) := by
      unfold kw_o
      rw [if_neg (show ¬ (kt_s tp n p < n ∧ tp (kt_s tp n p) = 58) from a1)]
    have := j16b (ka_u (ka_u (kt_bad (kt_at s (kt_s tp n p)) 1 (nI (kt_s tp n p))) 72 30 0) 72 31 0) 1 (kt_s tp n p) (by omega) hko (((kt_fr.u (by decide) _).tr ((kt_fr.u (by decide) _).tr ((kt_fr.u (by decide) _).tr ((kt_fr.u (by decide) _).tr (kt_fr.u (by decide) _))))) : kt_fr s _).m rfl rfl
    rw [← ew] at this
    exact this
end O3
